set_option maxHeartbeats 4000000 in
set_option maxRecDepth 20000 in
theorem B10_feed {d : Nat} {K M : ZMem} {Q : Int → ZMem → Prop} (a1 : Int) (hK : KW K M) (h0 : ModelAt K 2230) (h : ((1 ≤ a1 ∧ a1 ≤ 255 → (((mI M 2230 1) ≠ 150 → ((0 ≤ (mI M 2230 1)) ∧ ((mI M 2230 1) < 150) ∧ (inR ((mI (sI M 2231 ((mI M 2230 1).toNat) a1) 2230 1) + 1)) ∧ Q (mI (sI (sI M 2231 ((mI M 2230 1).toNat) a1) 2230 1 ((mI (sI M 2231 ((mI M 2230 1).toNat) a1) 2230 1) + 1)) 2230 1) (sI (sI M 2231 ((mI M 2230 1).toNat) a1) 2230 1 ((mI (sI M 2231 ((mI M 2230 1).toNat) a1) 2230 1) + 1)))) ∧ (¬ ((mI M 2230 1) ≠ 150) → (Q (-2002) M)))) ∧ (¬ (1 ≤ a1 ∧ a1 ≤ 255) → (Q (-2001) M)))) : Ci (d + 1) q10_feed [zr 2230, zi a1] M Q := by
  refine Ci.of rfl rfl (Nat.le_of_ble_eq_true rfl) (fun w hw x e => by subst e; simp at hw) (L := [some (zr 2230), some (zi a1)]) rfl ?_
  refine Xi.up (pc' := 1) (fun _ _ k => x_iload_n dX10_feed_0 rfl rfl k) ?_
  refine Xi.up (pc' := 2) (fun _ _ k => x_i2l dX10_feed_1 k) ?_
  refine Xi.up (pc' := 3) (fun _ _ k => x_lconst (x := 1) dX10_feed_2 ⟨by decide, by decide⟩ rfl k) ?_
  refine Xi.up (pc' := 6) (fun _ _ k => x_ldc2 ll10_41 dX10_feed_3 (show inL 255 from ⟨by decide, by decide⟩) rfl k) ?_
  by_cases c : 1 ≤ a1 ∧ a1 ≤ 255
  · have h := h.1 c
    refine Xi.up (pc' := 9) (st' := [zi 1]) (fun _ _ k => x_in1 (st := []) lm10_43 dX10_feed_6 (zs8 rfl) c k) ?_
    refine Xi.br (tgt := 16) (pc' := 12) ((1 : Int) ≠ 0) (fun _ _ kt kf => x_if_ne dX10_feed_9 rfl kt kf) (fun _ => ?_) (fun c => absurd (by decide) c)
    refine Xi.up (pc' := 17) (fun _ _ k => x_aload_n dX10_feed_16 rfl rfl k) ?_
    refine Xi.up (pc' := 20) (fun _ _ k => x_getIK hK lf10_47 rfl dX10_feed_17 h0.1 k) ?_
    refine Xi.up (pc' := 23) (fun _ _ k => x_sipush dX10_feed_20 (show inR 150 from ⟨by decide, by decide⟩) (by decide) k) ?_
    refine Xi.br (tgt := 30) (pc' := 26) ((mI M 2230 1) ≠ 150) (fun _ _ kt kf => x_icmp_ne dX10_feed_23 rfl kt kf) (fun c => ?_) (fun c => ?_)
    · have h := h.1 c
      refine Xi.up (pc' := 31) (fun _ _ k => x_aload_n dX10_feed_30 rfl rfl k) ?_
      refine Xi.up (pc' := 34) (fun _ _ k => x_getRK hK lf10_9 rfl dX10_feed_31 h0.1 h0.2.1 k) ?_
      refine Xi.up (pc' := 35) (fun _ _ k => x_aload_n dX10_feed_34 rfl rfl k) ?_
      refine Xi.up (pc' := 38) (fun _ _ k => x_getIK hK lf10_47 rfl dX10_feed_35 h0.1 k) ?_
      refine Xi.up (pc' := 39) (fun _ _ k => x_iload_n dX10_feed_38 rfl rfl k) ?_
      obtain ⟨g1, h⟩ := h
      obtain ⟨g2, h⟩ := h
      refine Xi.up (pc' := 40) (fun _ _ k => x_iastoreK hK dX10_feed_39 h0.2.2.2.2.2.2.2.2.2.2.2.1 g1 g2 k) ?_
      have hK3 := KW.sI hK 2231 ((mI M 2230 1).toNat) a1
      refine Xi.up (pc' := 41) (fun _ _ k => x_aload_n dX10_feed_40 rfl rfl k) ?_
      refine Xi.up (pc' := 42) (fun _ _ k => x_dupR dX10_feed_41 k) ?_
      refine Xi.up (pc' := 45) (fun _ _ k => x_getIK hK3 lf10_47 rfl dX10_feed_42 h0.1 k) ?_
      refine Xi.up (pc' := 46) (fun _ _ k => x_iconst dX10_feed_45 (show inR 1 from ⟨by decide, by decide⟩) k) ?_
      obtain ⟨g4, h⟩ := h
      refine Xi.up (pc' := 47) (fun _ _ k => x_iadd dX10_feed_46 g4 k) ?_
      refine Xi.up (pc' := 50) (fun _ _ k => x_putIK hK3 lf10_47 rfl rfl (Or.inl rfl) dX10_feed_47 h0.1 k) ?_
      have hK5 := KW.sI hK3 2230 1 ((mI (sI M 2231 ((mI M 2230 1).toNat) a1) 2230 1) + 1)
      refine Xi.up (pc' := 51) (fun _ _ k => x_aload_n dX10_feed_50 rfl rfl k) ?_
      refine Xi.up (pc' := 54) (fun _ _ k => x_getIK hK5 lf10_47 rfl dX10_feed_51 h0.1 k) ?_
      exact Xi.ret ⟨dX10_feed_54, Or.inl rfl⟩ h
    · have h := h.2 c
      refine Xi.up (pc' := 29) (fun _ _ k => x_sipush dX10_feed_26 (show inR (-2002) from ⟨by decide, by decide⟩) (by decide) k) ?_
      exact Xi.ret ⟨dX10_feed_29, Or.inl rfl⟩ h
  · have h := h.2 c
    refine Xi.up (pc' := 9) (st' := [zi 0]) (fun _ _ k => x_in0 (st := []) lm10_43 dX10_feed_6 (zs8 rfl) c k) ?_
    refine Xi.br (tgt := 16) (pc' := 12) ((0 : Int) ≠ 0) (fun _ _ kt kf => x_if_ne dX10_feed_9 rfl kt kf) (fun c => absurd c (by decide)) (fun _ => ?_)
    refine Xi.up (pc' := 15) (fun _ _ k => x_sipush dX10_feed_12 (show inR (-2001) from ⟨by decide, by decide⟩) (by decide) k) ?_
    exact Xi.ret ⟨dX10_feed_15, Or.inl rfl⟩ h
set_option maxHeartbeats 4000000 in
set_option maxRecDepth 20000 in
theorem B10_byteAt {d : Nat} {K M : ZMem} {Q : Int → ZMem → Prop} (a1 : Int) (hK : KW K M) (h0 : ModelAt K 2230) (h : (((mI M 2230 1) ≤ a1 → (Q 0 M)) ∧ (¬ ((mI M 2230 1) ≤ a1) → ((0 ≤ a1) ∧ (a1 < 150) ∧ Q (mI M 2231 a1.toNat) M)))) : Ci d q10_byteAt [zr 2230, zi a1] M Q := by
  refine Ci.of rfl rfl (Nat.le_of_ble_eq_true rfl) (fun w hw x e => by subst e; simp at hw) (L := [some (zr 2230), some (zi a1)]) rfl ?_
  refine Xi.up (pc' := 1) (fun _ _ k => x_iload_n dX10_byteAt_0 rfl rfl k) ?_
  refine Xi.up (pc' := 2) (fun _ _ k => x_aload_n dX10_byteAt_1 rfl rfl k) ?_
  refine Xi.up (pc' := 5) (fun _ _ k => x_getIK hK lf10_47 rfl dX10_byteAt_2 h0.1 k) ?_
  refine Xi.br (tgt := 17) (pc' := 8) ((mI M 2230 1) ≤ a1) (fun _ _ kt kf => x_icmp_ge dX10_byteAt_5 rfl kt kf) (fun c => ?_) (fun c => ?_)
  · have h := h.1 c
    refine Xi.up (pc' := 18) (fun _ _ k => x_iconst dX10_byteAt_17 (show inR 0 from ⟨by decide, by decide⟩) k) ?_
    exact Xi.ret ⟨dX10_byteAt_18, Or.inl rfl⟩ h
  · have h := h.2 c
    refine Xi.up (pc' := 9) (fun _ _ k => x_aload_n dX10_byteAt_8 rfl rfl k) ?_
    refine Xi.up (pc' := 12) (fun _ _ k => x_getRK hK lf10_9 rfl dX10_byteAt_9 h0.1 h0.2.1 k) ?_
    refine Xi.up (pc' := 13) (fun _ _ k => x_iload_n dX10_byteAt_12 rfl rfl k) ?_
    obtain ⟨g1, h⟩ := h
    obtain ⟨g2, h⟩ := h
    refine Xi.up (pc' := 14) (fun _ _ k => x_ialoadK hK dX10_byteAt_13 h0.2.2.2.2.2.2.2.2.2.2.2.1 g1 g2 k) ?_
    refine Xi.up (pc' := 18) (fun _ _ k => x_goto dX10_byteAt_14 rfl k) ?_
    exact Xi.ret ⟨dX10_byteAt_18, Or.inl rfl⟩ h
set_option maxHeartbeats 4000000 in
set_option maxRecDepth 20000 in
theorem B10_peek {d : Nat} {K M : ZMem} {Q : Int → ZMem → Prop}  (hK : KW K M) (h0 : ModelAt K 2230) (h : Ci d q10_byteAt [zr 2230, zi (mI M 2230 2)] M (fun x2 M1 => KW K M1 ∧ Q x2 M1)) : Ci (d + 1) q10_peek [zr 2230] M Q := by
  refine Ci.of rfl rfl (Nat.le_of_ble_eq_true rfl) (fun w hw x e => by subst e; simp at hw) (L := [some (zr 2230)]) rfl ?_
  refine Xi.up (pc' := 1) (fun _ _ k => x_aload_n dX10_peek_0 rfl rfl k) ?_
  refine Xi.up (pc' := 2) (fun _ _ k => x_aload_n dX10_peek_1 rfl rfl k) ?_
  refine Xi.up (pc' := 5) (fun _ _ k => x_getIK hK lf10_51 rfl dX10_peek_2 h0.1 k) ?_
  obtain ⟨x2, M1, hc4, hK3, h⟩ := h
  refine Xi.up (pc' := 8) (st' := [zi x2]) (fun _ _ k => x_callVK (ci := 10) (as := [zi (mI M 2230 2)]) (st := []) hK k10_byteAt lm10_54 dX10_peek_5 rfl (by decide) (zs8 rfl) h0.1 ⟨_, _, rfl⟩ hc4 k) ?_
  exact Xi.ret ⟨dX10_peek_8, Or.inl rfl⟩ h
set_option maxHeartbeats 4000000 in
set_option maxRecDepth 20000 in
theorem B10_wrong {d : Nat} {K M : ZMem} {Q : ZMem → Prop} (a1 : Int) (hK : KW K M) (h0 : ModelAt K 2230) (h : ((0 ≤ (mI M 2230 3) → (Q (sI M 2230 3 (mI M 2230 3)))) ∧ (¬ (0 ≤ (mI M 2230 3)) → (Q (sI M 2230 3 a1))))) : Cv d q10_wrong [zr 2230, zi a1] M Q := by
  refine Cv.of rfl rfl (Nat.le_of_ble_eq_true rfl) (fun w hw x e => by subst e; simp at hw) (L := [some (zr 2230), some (zi a1)]) rfl ?_
  refine Xv.up (pc' := 1) (fun _ _ k => x_aload_n dX10_wrong_0 rfl rfl k) ?_
  refine Xv.up (pc' := 2) (fun _ _ k => x_aload_n dX10_wrong_1 rfl rfl k) ?_
  refine Xv.up (pc' := 5) (fun _ _ k => x_getIK hK lf10_58 rfl dX10_wrong_2 h0.1 k) ?_
  refine Xv.br (tgt := 12) (pc' := 8) (0 ≤ (mI M 2230 3)) (fun _ _ kt kf => x_if_ge dX10_wrong_5 rfl kt kf) (fun c => ?_) (fun c => ?_)
  · have h := h.1 c
    refine Xv.up (pc' := 13) (fun _ _ k => x_aload_n dX10_wrong_12 rfl rfl k) ?_
    refine Xv.up (pc' := 16) (fun _ _ k => x_getIK hK lf10_58 rfl dX10_wrong_13 h0.1 k) ?_
    refine Xv.up (pc' := 19) (fun _ _ k => x_putIK hK lf10_58 rfl rfl (Or.inl rfl) dX10_wrong_16 h0.1 k) ?_
    have hK1 := KW.sI hK 2230 3 (mI M 2230 3)
    exact Xv.ret ⟨dX10_wrong_19, rfl⟩ h
  · have h := h.2 c
    refine Xv.up (pc' := 9) (fun _ _ k => x_iload_n dX10_wrong_8 rfl rfl k) ?_
    refine Xv.up (pc' := 16) (fun _ _ k => x_goto dX10_wrong_9 rfl k) ?_
    refine Xv.up (pc' := 19) (fun _ _ k => x_putIK hK lf10_58 rfl rfl (Or.inl rfl) dX10_wrong_16 h0.1 k) ?_
    have hK2 := KW.sI hK 2230 3 a1
    exact Xv.ret ⟨dX10_wrong_19, rfl⟩ h
set_option maxHeartbeats 4000000 in
set_option maxRecDepth 20000 in
theorem B10_takes {d : Nat} {K M : ZMem} {Q : Int → ZMem → Prop} (a1 : Int) (hK : KW K M) (h0 : ModelAt K 2230) (h : ((0 ≤ (mI M 2230 3) → (Q 0 M)) ∧ (¬ (0 ≤ (mI M 2230 3)) → (Ci d q10_peek [zr 2230] M (fun x2 M1 => KW K M1 ∧ ((x2 = a1 → ((inR ((mI M1 2230 2) + 1)) ∧ Q 1 (sI M1 2230 2 ((mI M1 2230 2) + 1)))) ∧ (¬ (x2 = a1) → (Q 0 M1)))))))) : Ci (d + 1) q10_takes [zr 2230, zi a1] M Q := by
  refine Ci.of rfl rfl (Nat.le_of_ble_eq_true rfl) (fun w hw x e => by subst e; simp at hw) (L := [some (zr 2230), some (zi a1)]) rfl ?_
  refine Xi.up (pc' := 1) (fun _ _ k => x_aload_n dX10_takes_0 rfl rfl k) ?_
  refine Xi.up (pc' := 4) (fun _ _ k => x_getIK hK lf10_58 rfl dX10_takes_1 h0.1 k) ?_
  refine Xi.br (tgt := 15) (pc' := 7) (0 ≤ (mI M 2230 3)) (fun _ _ kt kf => x_if_ge dX10_takes_4 rfl kt kf) (fun c => ?_) (fun c => ?_)
  · have h := h.1 c
    refine Xi.up (pc' := 16) (fun _ _ k => x_iconst dX10_takes_15 (show inR 0 from ⟨by decide, by decide⟩) k) ?_
    exact Xi.ret ⟨dX10_takes_16, Or.inr ⟨rfl, Or.inl rfl⟩⟩ h
  · have h := h.2 c
    refine Xi.up (pc' := 8) (fun _ _ k => x_aload_n dX10_takes_7 rfl rfl k) ?_
    obtain ⟨x2, M1, hc4, hK3, h⟩ := h
    refine Xi.up (pc' := 11) (st' := [zi x2]) (fun _ _ k => x_callVK (ci := 10) (as := []) (st := []) hK k10_peek lm10_61 dX10_takes_8 rfl (by decide) (zs8 rfl) h0.1 ⟨_, _, rfl⟩ hc4 k) ?_
    refine Xi.up (pc' := 12) (fun _ _ k => x_iload_n dX10_takes_11 rfl rfl k) ?_
    refine Xi.br (tgt := 17) (pc' := 15) (x2 = a1) (fun _ _ kt kf => x_icmp_eq dX10_takes_12 rfl kt kf) (fun c => ?_) (fun c => ?_)
    · have h := h.1 c
      refine Xi.up (pc' := 18) (fun _ _ k => x_aload_n dX10_takes_17 rfl rfl k) ?_
      refine Xi.up (pc' := 19) (fun _ _ k => x_dupR dX10_takes_18 k) ?_
      refine Xi.up (pc' := 22) (fun _ _ k => x_getIK hK3 lf10_51 rfl dX10_takes_19 h0.1 k) ?_
      refine Xi.up (pc' := 23) (fun _ _ k => x_iconst dX10_takes_22 (show inR 1 from ⟨by decide, by decide⟩) k) ?_
      obtain ⟨g5, h⟩ := h
      refine Xi.up (pc' := 24) (fun _ _ k => x_iadd dX10_takes_23 g5 k) ?_
      refine Xi.up (pc' := 27) (fun _ _ k => x_putIK hK3 lf10_51 rfl rfl (Or.inl rfl) dX10_takes_24 h0.1 k) ?_
      have hK6 := KW.sI hK3 2230 2 ((mI M1 2230 2) + 1)
      refine Xi.up (pc' := 28) (fun _ _ k => x_iconst dX10_takes_27 (show inR 1 from ⟨by decide, by decide⟩) k) ?_
      exact Xi.ret ⟨dX10_takes_28, Or.inr ⟨rfl, Or.inr rfl⟩⟩ h
    · have h := h.2 c
      refine Xi.up (pc' := 16) (fun _ _ k => x_iconst dX10_takes_15 (show inR 0 from ⟨by decide, by decide⟩) k) ?_
      exact Xi.ret ⟨dX10_takes_16, Or.inr ⟨rfl, Or.inl rfl⟩⟩ h
set_option maxHeartbeats 4000000 in
set_option maxRecDepth 20000 in
theorem B10_wants {d : Nat} {K M : ZMem} {Q : ZMem → Prop} (a1 : Int) (hK : KW K M) (h0 : ModelAt K 2230) (h : Ci d q10_takes [zr 2230, zi a1] M (fun x2 M1 => KW K M1 ∧ ((x2 ≠ 0 → (Q M1)) ∧ (¬ (x2 ≠ 0) → (Cv d q10_wrong [zr 2230, zi (mI M1 2230 2)] M1 (fun M5 => KW K M5 ∧ Q M5)))))) : Cv (d + 1) q10_wants [zr 2230, zi a1] M Q := by
  refine Cv.of rfl rfl (Nat.le_of_ble_eq_true rfl) (fun w hw x e => by subst e; simp at hw) (L := [some (zr 2230), some (zi a1)]) rfl ?_
  refine Xv.up (pc' := 1) (fun _ _ k => x_aload_n dX10_wants_0 rfl rfl k) ?_
  refine Xv.up (pc' := 2) (fun _ _ k => x_iload_n dX10_wants_1 rfl rfl k) ?_
  obtain ⟨x2, M1, hc4, hK3, h⟩ := h
  refine Xv.up (pc' := 5) (st' := [zi x2]) (fun _ _ k => x_callVK (ci := 10) (as := [zi a1]) (st := []) hK k10_takes lm10_65 dX10_wants_2 rfl (by decide) (zs8 rfl) h0.1 ⟨_, _, rfl⟩ hc4 k) ?_
  refine Xv.br (tgt := 16) (pc' := 8) (x2 ≠ 0) (fun _ _ kt kf => x_if_ne dX10_wants_5 rfl kt kf) (fun c => ?_) (fun c => ?_)
  · have h := h.1 c
    exact Xv.ret ⟨dX10_wants_16, rfl⟩ h
  · have h := h.2 c
    refine Xv.up (pc' := 9) (fun _ _ k => x_aload_n dX10_wants_8 rfl rfl k) ?_
    refine Xv.up (pc' := 10) (fun _ _ k => x_aload_n dX10_wants_9 rfl rfl k) ?_
    refine Xv.up (pc' := 13) (fun _ _ k => x_getIK hK3 lf10_51 rfl dX10_wants_10 h0.1 k) ?_
    obtain ⟨M5, hc7, hK6, h⟩ := h
    refine Xv.up (pc' := 16) (st' := []) (fun _ _ k => x_callVK (ci := 10) (as := [zi (mI M1 2230 2)]) (st := []) hK3 k10_wrong lm10_69 dX10_wants_13 rfl (by decide) (zs8 rfl) h0.1 ⟨_, _, rfl⟩ hc7 k) ?_
    exact Xv.ret ⟨dX10_wants_16, rfl⟩ h
set_option maxHeartbeats 4000000 in
set_option maxRecDepth 20000 in
theorem B10_writes {d : Nat} {K M : ZMem} {Q : Int → ZMem → Prop} (a1 : Int) (a2 : Int) (a3 : Int) (a4 : Int) (hK : KW K M) (h0 : ModelAt K 2230) (h : (((mI M 2230 3) < 0 → ((inR ((mI M 2230 6) * 260)) ∧ (inR (((mI M 2230 6) * 260) + (mI M 2230 7))) ∧ (0 ≤ (((mI M 2230 6) * 260) + (mI M 2230 7))) ∧ ((((mI M 2230 6) * 260) + (mI M 2230 7)) < 70200) ∧ (0 ≤ (((mI M 2230 6) * 260) + (mI M 2230 7))) ∧ ((((mI M 2230 6) * 260) + (mI M 2230 7)) < 70200) ∧ (0 ≤ (((mI M 2230 6) * 260) + (mI M 2230 7))) ∧ ((((mI M 2230 6) * 260) + (mI M 2230 7)) < 70200) ∧ (0 ≤ (((mI M 2230 6) * 260) + (mI M 2230 7))) ∧ ((((mI M 2230 6) * 260) + (mI M 2230 7)) < 70200) ∧ (0 ≤ (((mI M 2230 6) * 260) + (mI M 2230 7))) ∧ ((((mI M 2230 6) * 260) + (mI M 2230 7)) < 70200) ∧ (inR ((mI (sI (sI (sI (sI (sI M 2232 ((((mI M 2230 6) * 260) + (mI M 2230 7)).toNat) a1) 2233 ((((mI M 2230 6) * 260) + (mI M 2230 7)).toNat) a2) 2234 ((((mI M 2230 6) * 260) + (mI M 2230 7)).toNat) a3) 2235 ((((mI M 2230 6) * 260) + (mI M 2230 7)).toNat) a4) 2236 ((((mI M 2230 6) * 260) + (mI M 2230 7)).toNat) (-1)) 2230 7) + 1)) ∧ Q (((mI M 2230 6) * 260) + (mI M 2230 7)) (sI (sI (sI (sI (sI (sI M 2232 ((((mI M 2230 6) * 260) + (mI M 2230 7)).toNat) a1) 2233 ((((mI M 2230 6) * 260) + (mI M 2230 7)).toNat) a2) 2234 ((((mI M 2230 6) * 260) + (mI M 2230 7)).toNat) a3) 2235 ((((mI M 2230 6) * 260) + (mI M 2230 7)).toNat) a4) 2236 ((((mI M 2230 6) * 260) + (mI M 2230 7)).toNat) (-1)) 2230 7 ((mI (sI (sI (sI (sI (sI M 2232 ((((mI M 2230 6) * 260) + (mI M 2230 7)).toNat) a1) 2233 ((((mI M 2230 6) * 260) + (mI M 2230 7)).toNat) a2) 2234 ((((mI M 2230 6) * 260) + (mI M 2230 7)).toNat) a3) 2235 ((((mI M 2230 6) * 260) + (mI M 2230 7)).toNat) a4) 2236 ((((mI M 2230 6) * 260) + (mI M 2230 7)).toNat) (-1)) 2230 7) + 1)))) ∧ (¬ ((mI M 2230 3) < 0) → ((inR ((mI M 2230 6) * 260)) ∧ Q ((mI M 2230 6) * 260) M)))) : Ci d q10_writes [zr 2230, zi a1, zi a2, zi a3, zi a4] M Q := by
  refine Ci.of rfl rfl (Nat.le_of_ble_eq_true rfl) (fun w hw x e => by subst e; simp at hw) (L := [some (zr 2230), some (zi a1), some (zi a2), some (zi a3), some (zi a4), none]) rfl ?_
  refine Xi.up (pc' := 1) (fun _ _ k => x_aload_n dX10_writes_0 rfl rfl k) ?_
  refine Xi.up (pc' := 4) (fun _ _ k => x_getIK hK lf10_58 rfl dX10_writes_1 h0.1 k) ?_
  refine Xi.br (tgt := 16) (pc' := 7) ((mI M 2230 3) < 0) (fun _ _ kt kf => x_if_lt dX10_writes_4 rfl kt kf) (fun c => ?_) (fun c => ?_)
  · have h := h.1 c
    refine Xi.up (pc' := 17) (fun _ _ k => x_aload_n dX10_writes_16 rfl rfl k) ?_
    refine Xi.up (pc' := 20) (fun _ _ k => x_getIK hK lf10_73 rfl dX10_writes_17 h0.1 k) ?_
    refine Xi.up (pc' := 23) (fun _ _ k => x_sipush dX10_writes_20 (show inR 260 from ⟨by decide, by decide⟩) (by decide) k) ?_
    obtain ⟨g1, h⟩ := h
    refine Xi.up (pc' := 24) (fun _ _ k => x_imul dX10_writes_23 g1 k) ?_
    refine Xi.up (pc' := 25) (fun _ _ k => x_aload_n dX10_writes_24 rfl rfl k) ?_
    refine Xi.up (pc' := 28) (fun _ _ k => x_getIK hK lf10_76 rfl dX10_writes_25 h0.1 k) ?_
    obtain ⟨g2, h⟩ := h
    refine Xi.up (pc' := 29) (fun _ _ k => x_iadd dX10_writes_28 g2 k) ?_
    refine Xi.up (pc' := 31) (L' := [some (zr 2230), some (zi a1), some (zi a2), some (zi a3), some (zi a4), some (zi (((mI M 2230 6) * 260) + (mI M 2230 7)))]) (fun _ _ k => x_istore dX10_writes_29 (by decide) rfl k) ?_
    refine Xi.up (pc' := 32) (fun _ _ k => x_aload_n dX10_writes_31 rfl rfl k) ?_
    refine Xi.up (pc' := 35) (fun _ _ k => x_getRK hK lf10_14 rfl dX10_writes_32 h0.1 h0.2.2.1 k) ?_
    refine Xi.up (pc' := 37) (fun _ _ k => x_iload dX10_writes_35 rfl k) ?_
    refine Xi.up (pc' := 38) (fun _ _ k => x_iload_n dX10_writes_37 rfl rfl k) ?_
    obtain ⟨g3, h⟩ := h
    obtain ⟨g4, h⟩ := h
    refine Xi.up (pc' := 39) (fun _ _ k => x_iastoreK hK dX10_writes_38 h0.2.2.2.2.2.2.2.2.2.2.2.2.1 g3 g4 k) ?_
    have hK5 := KW.sI hK 2232 ((((mI M 2230 6) * 260) + (mI M 2230 7)).toNat) a1
    refine Xi.up (pc' := 40) (fun _ _ k => x_aload_n dX10_writes_39 rfl rfl k) ?_
    refine Xi.up (pc' := 43) (fun _ _ k => x_getRK hK5 lf10_17 rfl dX10_writes_40 h0.1 h0.2.2.2.1 k) ?_
    refine Xi.up (pc' := 45) (fun _ _ k => x_iload dX10_writes_43 rfl k) ?_
    refine Xi.up (pc' := 46) (fun _ _ k => x_iload_n dX10_writes_45 rfl rfl k) ?_
    obtain ⟨g6, h⟩ := h
    obtain ⟨g7, h⟩ := h
    refine Xi.up (pc' := 47) (fun _ _ k => x_iastoreK hK5 dX10_writes_46 h0.2.2.2.2.2.2.2.2.2.2.2.2.2.1 g6 g7 k) ?_
    have hK8 := KW.sI hK5 2233 ((((mI M 2230 6) * 260) + (mI M 2230 7)).toNat) a2
    refine Xi.up (pc' := 48) (fun _ _ k => x_aload_n dX10_writes_47 rfl rfl k) ?_
    refine Xi.up (pc' := 51) (fun _ _ k => x_getRK hK8 lf10_20 rfl dX10_writes_48 h0.1 h0.2.2.2.2.1 k) ?_
    refine Xi.up (pc' := 53) (fun _ _ k => x_iload dX10_writes_51 rfl k) ?_
    refine Xi.up (pc' := 54) (fun _ _ k => x_iload_n dX10_writes_53 rfl rfl k) ?_
    obtain ⟨g9, h⟩ := h
    obtain ⟨g10, h⟩ := h
    refine Xi.up (pc' := 55) (fun _ _ k => x_iastoreK hK8 dX10_writes_54 h0.2.2.2.2.2.2.2.2.2.2.2.2.2.2.1 g9 g10 k) ?_
    have hK11 := KW.sI hK8 2234 ((((mI M 2230 6) * 260) + (mI M 2230 7)).toNat) a3
    refine Xi.up (pc' := 56) (fun _ _ k => x_aload_n dX10_writes_55 rfl rfl k) ?_
    refine Xi.up (pc' := 59) (fun _ _ k => x_getRK hK11 lf10_23 rfl dX10_writes_56 h0.1 h0.2.2.2.2.2.1 k) ?_
    refine Xi.up (pc' := 61) (fun _ _ k => x_iload dX10_writes_59 rfl k) ?_
    refine Xi.up (pc' := 63) (fun _ _ k => x_iload dX10_writes_61 rfl k) ?_
    obtain ⟨g12, h⟩ := h
    obtain ⟨g13, h⟩ := h
    refine Xi.up (pc' := 64) (fun _ _ k => x_iastoreK hK11 dX10_writes_63 h0.2.2.2.2.2.2.2.2.2.2.2.2.2.2.2.1 g12 g13 k) ?_
    have hK14 := KW.sI hK11 2235 ((((mI M 2230 6) * 260) + (mI M 2230 7)).toNat) a4
    refine Xi.up (pc' := 65) (fun _ _ k => x_aload_n dX10_writes_64 rfl rfl k) ?_
    refine Xi.up (pc' := 68) (fun _ _ k => x_getRK hK14 lf10_26 rfl dX10_writes_65 h0.1 h0.2.2.2.2.2.2.1 k) ?_
    refine Xi.up (pc' := 70) (fun _ _ k => x_iload dX10_writes_68 rfl k) ?_
    refine Xi.up (pc' := 71) (fun _ _ k => x_iconst dX10_writes_70 (show inR (-1) from ⟨by decide, by decide⟩) k) ?_
    obtain ⟨g15, h⟩ := h
    obtain ⟨g16, h⟩ := h
    refine Xi.up (pc' := 72) (fun _ _ k => x_iastoreK hK14 dX10_writes_71 h0.2.2.2.2.2.2.2.2.2.2.2.2.2.2.2.2.1 g15 g16 k) ?_
    have hK17 := KW.sI hK14 2236 ((((mI M 2230 6) * 260) + (mI M 2230 7)).toNat) (-1)
    refine Xi.up (pc' := 73) (fun _ _ k => x_aload_n dX10_writes_72 rfl rfl k) ?_
    refine Xi.up (pc' := 74) (fun _ _ k => x_dupR dX10_writes_73 k) ?_
    refine Xi.up (pc' := 77) (fun _ _ k => x_getIK hK17 lf10_76 rfl dX10_writes_74 h0.1 k) ?_
    refine Xi.up (pc' := 78) (fun _ _ k => x_iconst dX10_writes_77 (show inR 1 from ⟨by decide, by decide⟩) k) ?_
    obtain ⟨g18, h⟩ := h
    refine Xi.up (pc' := 79) (fun _ _ k => x_iadd dX10_writes_78 g18 k) ?_
    refine Xi.up (pc' := 82) (fun _ _ k => x_putIK hK17 lf10_76 rfl rfl (Or.inl rfl) dX10_writes_79 h0.1 k) ?_
    have hK19 := KW.sI hK17 2230 7 ((mI (sI (sI (sI (sI (sI M 2232 ((((mI M 2230 6) * 260) + (mI M 2230 7)).toNat) a1) 2233 ((((mI M 2230 6) * 260) + (mI M 2230 7)).toNat) a2) 2234 ((((mI M 2230 6) * 260) + (mI M 2230 7)).toNat) a3) 2235 ((((mI M 2230 6) * 260) + (mI M 2230 7)).toNat) a4) 2236 ((((mI M 2230 6) * 260) + (mI M 2230 7)).toNat) (-1)) 2230 7) + 1)
    refine Xi.up (pc' := 84) (fun _ _ k => x_iload dX10_writes_82 rfl k) ?_
    exact Xi.ret ⟨dX10_writes_84, Or.inl rfl⟩ h
  · have h := h.2 c
    refine Xi.up (pc' := 8) (fun _ _ k => x_aload_n dX10_writes_7 rfl rfl k) ?_
    refine Xi.up (pc' := 11) (fun _ _ k => x_getIK hK lf10_73 rfl dX10_writes_8 h0.1 k) ?_
    refine Xi.up (pc' := 14) (fun _ _ k => x_sipush dX10_writes_11 (show inR 260 from ⟨by decide, by decide⟩) (by decide) k) ?_
    obtain ⟨g20, h⟩ := h
    refine Xi.up (pc' := 15) (fun _ _ k => x_imul dX10_writes_14 g20 k) ?_
    exact Xi.ret ⟨dX10_writes_15, Or.inl rfl⟩ h
set_option maxHeartbeats 4000000 in
set_option maxRecDepth 20000 in
theorem B10_isName {d : Nat} {K M : ZMem} {Q : Int → ZMem → Prop}  (hK : KW K M) (h0 : ModelAt K 2230) (h : Ci d q10_peek [zr 2230] M (fun x2 M1 => KW K M1 ∧ ((97 ≤ x2 ∧ x2 ≤ 104 → (Q 1 M1)) ∧ (¬ (97 ≤ x2 ∧ x2 ≤ 104) → (Q 0 M1))))) : Ci (d + 1) q10_isName [zr 2230] M Q := by
  refine Ci.of rfl rfl (Nat.le_of_ble_eq_true rfl) (fun w hw x e => by subst e; simp at hw) (L := [some (zr 2230)]) rfl ?_
  refine Xi.up (pc' := 1) (fun _ _ k => x_aload_n dX10_isName_0 rfl rfl k) ?_
  obtain ⟨x2, M1, hc4, hK3, h⟩ := h
  refine Xi.up (pc' := 4) (st' := [zi x2]) (fun _ _ k => x_callVK (ci := 10) (as := []) (st := []) hK k10_peek lm10_61 dX10_isName_1 rfl (by decide) (zs8 rfl) h0.1 ⟨_, _, rfl⟩ hc4 k) ?_
  refine Xi.up (pc' := 5) (fun _ _ k => x_i2l dX10_isName_4 k) ?_
  refine Xi.up (pc' := 8) (fun _ _ k => x_ldc2 ll10_79 dX10_isName_5 (show inL 97 from ⟨by decide, by decide⟩) rfl k) ?_
  refine Xi.up (pc' := 11) (fun _ _ k => x_ldc2 ll10_81 dX10_isName_8 (show inL 104 from ⟨by decide, by decide⟩) rfl k) ?_
  by_cases c : 97 ≤ x2 ∧ x2 ≤ 104
  · have h := h.1 c
    refine Xi.up (pc' := 14) (st' := [zi 1]) (fun _ _ k => x_in1 (st := []) lm10_43 dX10_isName_11 (zs8 rfl) c k) ?_
    exact Xi.ret ⟨dX10_isName_14, Or.inr ⟨rfl, Or.inr rfl⟩⟩ h
  · have h := h.2 c
    refine Xi.up (pc' := 14) (st' := [zi 0]) (fun _ _ k => x_in0 (st := []) lm10_43 dX10_isName_11 (zs8 rfl) c k) ?_
    exact Xi.ret ⟨dX10_isName_14, Or.inr ⟨rfl, Or.inl rfl⟩⟩ h
set_option maxHeartbeats 4000000 in
set_option maxRecDepth 20000 in
theorem B10_readsUnit {d : Nat} {K M : ZMem} {Q : Int → ZMem → Prop}  (hK : KW K M) (h0 : ModelAt K 2230) (h : (((mI M 2230 3) < 0 → (Ci d q10_isName [zr 2230] M (fun x2 M1 => KW K M1 ∧ ((x2 = 0 → (Ci d q10_takes [zr 2230, zi 45] M1 (fun x6 M5 => KW K M5 ∧ ((x6 = 0 → (Xi (d + 1) q10_readsUnit 74 [some (zr 2230), some (zi (mI M5 2230 2)), some (zi 0)] [] M5 Q)) ∧ (¬ (x6 = 0) → (Ci d q10_readsUnit [zr 2230] M5 (fun x10 M9 => KW K M9 ∧ Ci d q10_writes [zr 2230, zi 6, zi x10, zi 0, zi 0] M9 (fun x14 M13 => KW K M13 ∧ Q x14 M13)))))))) ∧ (¬ (x2 = 0) → (Ci d q10_peek [zr 2230] M1 (fun x18 M17 => KW K M17 ∧ (inR (x18 - 97)) ∧ (inR ((mI M17 2230 2) + 1)) ∧ Ci d q10_writes [zr 2230, zi 2, zi (x18 - 97), zi 0, zi 0] (sI M17 2230 2 ((mI M17 2230 2) + 1)) (fun x25 M24 => KW K M24 ∧ Q x25 M24)))))))) ∧ (¬ ((mI M 2230 3) < 0) → (Q 0 M)))) : Ci (d + 1) q10_readsUnit [zr 2230] M Q := by
  refine Ci.of rfl rfl (Nat.le_of_ble_eq_true rfl) (fun w hw x e => by subst e; simp at hw) (L := [some (zr 2230), none, none]) rfl ?_
  refine Xi.up (pc' := 1) (fun _ _ k => x_aload_n dX10_readsUnit_0 rfl rfl k) ?_
  refine Xi.up (pc' := 4) (fun _ _ k => x_getIK hK lf10_58 rfl dX10_readsUnit_1 h0.1 k) ?_
  refine Xi.br (tgt := 9) (pc' := 7) ((mI M 2230 3) < 0) (fun _ _ kt kf => x_if_lt dX10_readsUnit_4 rfl kt kf) (fun c => ?_) (fun c => ?_)
  · have h := h.1 c
    refine Xi.up (pc' := 10) (fun _ _ k => x_aload_n dX10_readsUnit_9 rfl rfl k) ?_
    obtain ⟨x2, M1, hc4, hK3, h⟩ := h
    refine Xi.up (pc' := 13) (st' := [zi x2]) (fun _ _ k => x_callVK (ci := 10) (as := []) (st := []) hK k10_isName lm10_83 dX10_readsUnit_10 rfl (by decide) (zs8 rfl) h0.1 ⟨_, _, rfl⟩ hc4 k) ?_
    refine Xi.br (tgt := 43) (pc' := 16) (x2 = 0) (fun _ _ kt kf => x_if_eq dX10_readsUnit_13 rfl kt kf) (fun c => ?_) (fun c => ?_)
    · have h := h.1 c
      refine Xi.up (pc' := 44) (fun _ _ k => x_aload_n dX10_readsUnit_43 rfl rfl k) ?_
      refine Xi.up (pc' := 46) (fun _ _ k => x_bipush dX10_readsUnit_44 (show inR 45 from ⟨by decide, by decide⟩) (by decide) k) ?_
      obtain ⟨x6, M5, hc8, hK7, h⟩ := h
      refine Xi.up (pc' := 49) (st' := [zi x6]) (fun _ _ k => x_callVK (ci := 10) (as := [zi 45]) (st := []) hK3 k10_takes lm10_65 dX10_readsUnit_46 rfl (by decide) (zs8 rfl) h0.1 ⟨_, _, rfl⟩ hc8 k) ?_
      refine Xi.br (tgt := 67) (pc' := 52) (x6 = 0) (fun _ _ kt kf => x_if_eq dX10_readsUnit_49 rfl kt kf) (fun c => ?_) (fun c => ?_)
      · have h := h.1 c
        refine Xi.up (pc' := 68) (fun _ _ k => x_aload_n dX10_readsUnit_67 rfl rfl k) ?_
        refine Xi.up (pc' := 71) (fun _ _ k => x_getIK hK7 lf10_51 rfl dX10_readsUnit_68 h0.1 k) ?_
        refine Xi.up (pc' := 72) (L' := [some (zr 2230), some (zi (mI M5 2230 2)), none]) (fun _ _ k => x_istore_n dX10_readsUnit_71 rfl (by decide) rfl k) ?_
        refine Xi.up (pc' := 73) (fun _ _ k => x_iconst dX10_readsUnit_72 (show inR 0 from ⟨by decide, by decide⟩) k) ?_
        refine Xi.up (pc' := 74) (L' := [some (zr 2230), some (zi (mI M5 2230 2)), some (zi 0)]) (fun _ _ k => x_istore_n dX10_readsUnit_73 rfl (by decide) rfl k) ?_
        exact h
      · have h := h.2 c
        refine Xi.up (pc' := 53) (fun _ _ k => x_aload_n dX10_readsUnit_52 rfl rfl k) ?_
        obtain ⟨x10, M9, hc12, hK11, h⟩ := h
        refine Xi.up (pc' := 56) (st' := [zi x10]) (fun _ _ k => x_callVK (ci := 10) (as := []) (st := []) hK7 k10_readsUnit lm10_91 dX10_readsUnit_53 rfl (by decide) (zs8 rfl) h0.1 ⟨_, _, rfl⟩ hc12 k) ?_
        refine Xi.up (pc' := 57) (L' := [some (zr 2230), some (zi x10), none]) (fun _ _ k => x_istore_n dX10_readsUnit_56 rfl (by decide) rfl k) ?_
        refine Xi.up (pc' := 58) (fun _ _ k => x_aload_n dX10_readsUnit_57 rfl rfl k) ?_
        refine Xi.up (pc' := 60) (fun _ _ k => x_bipush dX10_readsUnit_58 (show inR 6 from ⟨by decide, by decide⟩) (by decide) k) ?_
        refine Xi.up (pc' := 61) (fun _ _ k => x_iload_n dX10_readsUnit_60 rfl rfl k) ?_
        refine Xi.up (pc' := 62) (fun _ _ k => x_iconst dX10_readsUnit_61 (show inR 0 from ⟨by decide, by decide⟩) k) ?_
        refine Xi.up (pc' := 63) (fun _ _ k => x_iconst dX10_readsUnit_62 (show inR 0 from ⟨by decide, by decide⟩) k) ?_
        obtain ⟨x14, M13, hc16, hK15, h⟩ := h
        refine Xi.up (pc' := 66) (st' := [zi x14]) (fun _ _ k => x_callVK (ci := 10) (as := [zi 6, zi x10, zi 0, zi 0]) (st := []) hK11 k10_writes lm10_87 dX10_readsUnit_63 rfl (by decide) (zs8 rfl) h0.1 ⟨_, _, rfl⟩ hc16 k) ?_
        exact Xi.ret ⟨dX10_readsUnit_66, Or.inl rfl⟩ h
    · have h := h.2 c
      refine Xi.up (pc' := 17) (fun _ _ k => x_aload_n dX10_readsUnit_16 rfl rfl k) ?_
      obtain ⟨x18, M17, hc20, hK19, h⟩ := h
      refine Xi.up (pc' := 20) (st' := [zi x18]) (fun _ _ k => x_callVK (ci := 10) (as := []) (st := []) hK3 k10_peek lm10_61 dX10_readsUnit_17 rfl (by decide) (zs8 rfl) h0.1 ⟨_, _, rfl⟩ hc20 k) ?_
      refine Xi.up (pc' := 22) (fun _ _ k => x_bipush dX10_readsUnit_20 (show inR 97 from ⟨by decide, by decide⟩) (by decide) k) ?_
      obtain ⟨g21, h⟩ := h
      refine Xi.up (pc' := 23) (fun _ _ k => x_isub dX10_readsUnit_22 g21 k) ?_
      refine Xi.up (pc' := 24) (L' := [some (zr 2230), some (zi (x18 - 97)), none]) (fun _ _ k => x_istore_n dX10_readsUnit_23 rfl (by decide) rfl k) ?_
      refine Xi.up (pc' := 25) (fun _ _ k => x_aload_n dX10_readsUnit_24 rfl rfl k) ?_
      refine Xi.up (pc' := 26) (fun _ _ k => x_dupR dX10_readsUnit_25 k) ?_
      refine Xi.up (pc' := 29) (fun _ _ k => x_getIK hK19 lf10_51 rfl dX10_readsUnit_26 h0.1 k) ?_
      refine Xi.up (pc' := 30) (fun _ _ k => x_iconst dX10_readsUnit_29 (show inR 1 from ⟨by decide, by decide⟩) k) ?_
      obtain ⟨g22, h⟩ := h
      refine Xi.up (pc' := 31) (fun _ _ k => x_iadd dX10_readsUnit_30 g22 k) ?_
      refine Xi.up (pc' := 34) (fun _ _ k => x_putIK hK19 lf10_51 rfl rfl (Or.inl rfl) dX10_readsUnit_31 h0.1 k) ?_
      have hK23 := KW.sI hK19 2230 2 ((mI M17 2230 2) + 1)
      refine Xi.up (pc' := 35) (fun _ _ k => x_aload_n dX10_readsUnit_34 rfl rfl k) ?_
      refine Xi.up (pc' := 36) (fun _ _ k => x_iconst dX10_readsUnit_35 (show inR 2 from ⟨by decide, by decide⟩) k) ?_
      refine Xi.up (pc' := 37) (fun _ _ k => x_iload_n dX10_readsUnit_36 rfl rfl k) ?_
      refine Xi.up (pc' := 38) (fun _ _ k => x_iconst dX10_readsUnit_37 (show inR 0 from ⟨by decide, by decide⟩) k) ?_
      refine Xi.up (pc' := 39) (fun _ _ k => x_iconst dX10_readsUnit_38 (show inR 0 from ⟨by decide, by decide⟩) k) ?_
      obtain ⟨x25, M24, hc27, hK26, h⟩ := h
      refine Xi.up (pc' := 42) (st' := [zi x25]) (fun _ _ k => x_callVK (ci := 10) (as := [zi 2, zi (x18 - 97), zi 0, zi 0]) (st := []) hK23 k10_writes lm10_87 dX10_readsUnit_39 rfl (by decide) (zs8 rfl) h0.1 ⟨_, _, rfl⟩ hc27 k) ?_
      exact Xi.ret ⟨dX10_readsUnit_42, Or.inl rfl⟩ h
  · have h := h.2 c
    refine Xi.up (pc' := 8) (fun _ _ k => x_iconst dX10_readsUnit_7 (show inR 0 from ⟨by decide, by decide⟩) k) ?_
    exact Xi.ret ⟨dX10_readsUnit_8, Or.inl rfl⟩ h
set_option maxHeartbeats 4000000 in
set_option maxRecDepth 20000 in
theorem B10_readsUnit_74 {d : Nat} {K M : ZMem} {Q : Int → ZMem → Prop} (l1 : Int) (l2 : Int) (hK : KW K M) (h0 : ModelAt K 2230) (h : (inR (l1 + 3)) ∧ (((l1 + 3) ≤ (mI M 2230 2) → (((mI M 2230 2) ≠ l1 → (Ci d q10_writes [zr 2230, zi 1, zi l2, zi 0, zi 0] M (fun x3 M2 => KW K M2 ∧ Q x3 M2))) ∧ (¬ ((mI M 2230 2) ≠ l1) → (Cv d q10_wrong [zr 2230, zi (mI M 2230 2)] M (fun M6 => KW K M6 ∧ Ci d q10_writes [zr 2230, zi 1, zi l2, zi 0, zi 0] M6 (fun x10 M9 => KW K M9 ∧ Q x10 M9)))))) ∧ (¬ ((l1 + 3) ≤ (mI M 2230 2)) → (Ci d q10_peek [zr 2230] M (fun x14 M13 => KW K M13 ∧ ((48 ≤ x14 ∧ x14 ≤ 57 → ((inR (10 * l2)) ∧ Ci d q10_peek [zr 2230] M13 (fun x19 M18 => KW K M18 ∧ (inR ((10 * l2) + x19)) ∧ (inR (((10 * l2) + x19) - 48)) ∧ (inR ((mI M18 2230 2) + 1)) ∧ Xi (d + 1) q10_readsUnit 74 [some (zr 2230), some (zi l1), some (zi (((10 * l2) + x19) - 48))] [] (sI M18 2230 2 ((mI M18 2230 2) + 1)) Q))) ∧ (¬ (48 ≤ x14 ∧ x14 ≤ 57) → (((mI M13 2230 2) ≠ l1 → (Ci d q10_writes [zr 2230, zi 1, zi l2, zi 0, zi 0] M13 (fun x27 M26 => KW K M26 ∧ Q x27 M26))) ∧ (¬ ((mI M13 2230 2) ≠ l1) → (Cv d q10_wrong [zr 2230, zi (mI M13 2230 2)] M13 (fun M30 => KW K M30 ∧ Ci d q10_writes [zr 2230, zi 1, zi l2, zi 0, zi 0] M30 (fun x34 M33 => KW K M33 ∧ Q x34 M33)))))))))))) : Xi (d + 1) q10_readsUnit 74 [some (zr 2230), some (zi l1), some (zi l2)] [] M Q := by
  refine Xi.up (pc' := 75) (fun _ _ k => x_aload_n dX10_readsUnit_74 rfl rfl k) ?_
  refine Xi.up (pc' := 78) (fun _ _ k => x_getIK hK lf10_51 rfl dX10_readsUnit_75 h0.1 k) ?_
  refine Xi.up (pc' := 79) (fun _ _ k => x_iload_n dX10_readsUnit_78 rfl rfl k) ?_
  refine Xi.up (pc' := 80) (fun _ _ k => x_iconst dX10_readsUnit_79 (show inR 3 from ⟨by decide, by decide⟩) k) ?_
  obtain ⟨g1, h⟩ := h
  refine Xi.up (pc' := 81) (fun _ _ k => x_iadd dX10_readsUnit_80 g1 k) ?_
  refine Xi.br (tgt := 127) (pc' := 84) ((l1 + 3) ≤ (mI M 2230 2)) (fun _ _ kt kf => x_icmp_ge dX10_readsUnit_81 rfl kt kf) (fun c => ?_) (fun c => ?_)
  · have h := h.1 c
    refine Xi.up (pc' := 128) (fun _ _ k => x_aload_n dX10_readsUnit_127 rfl rfl k) ?_
    refine Xi.up (pc' := 131) (fun _ _ k => x_getIK hK lf10_51 rfl dX10_readsUnit_128 h0.1 k) ?_
    refine Xi.up (pc' := 132) (fun _ _ k => x_iload_n dX10_readsUnit_131 rfl rfl k) ?_
    refine Xi.br (tgt := 143) (pc' := 135) ((mI M 2230 2) ≠ l1) (fun _ _ kt kf => x_icmp_ne dX10_readsUnit_132 rfl kt kf) (fun c => ?_) (fun c => ?_)
    · have h := h.1 c
      refine Xi.up (pc' := 144) (fun _ _ k => x_aload_n dX10_readsUnit_143 rfl rfl k) ?_
      refine Xi.up (pc' := 145) (fun _ _ k => x_iconst dX10_readsUnit_144 (show inR 1 from ⟨by decide, by decide⟩) k) ?_
      refine Xi.up (pc' := 146) (fun _ _ k => x_iload_n dX10_readsUnit_145 rfl rfl k) ?_
      refine Xi.up (pc' := 147) (fun _ _ k => x_iconst dX10_readsUnit_146 (show inR 0 from ⟨by decide, by decide⟩) k) ?_
      refine Xi.up (pc' := 148) (fun _ _ k => x_iconst dX10_readsUnit_147 (show inR 0 from ⟨by decide, by decide⟩) k) ?_
      obtain ⟨x3, M2, hc5, hK4, h⟩ := h
      refine Xi.up (pc' := 151) (st' := [zi x3]) (fun _ _ k => x_callVK (ci := 10) (as := [zi 1, zi l2, zi 0, zi 0]) (st := []) hK k10_writes lm10_87 dX10_readsUnit_148 rfl (by decide) (zs8 rfl) h0.1 ⟨_, _, rfl⟩ hc5 k) ?_
      exact Xi.ret ⟨dX10_readsUnit_151, Or.inl rfl⟩ h
    · have h := h.2 c
      refine Xi.up (pc' := 136) (fun _ _ k => x_aload_n dX10_readsUnit_135 rfl rfl k) ?_
      refine Xi.up (pc' := 137) (fun _ _ k => x_aload_n dX10_readsUnit_136 rfl rfl k) ?_
      refine Xi.up (pc' := 140) (fun _ _ k => x_getIK hK lf10_51 rfl dX10_readsUnit_137 h0.1 k) ?_
      obtain ⟨M6, hc8, hK7, h⟩ := h
      refine Xi.up (pc' := 143) (st' := []) (fun _ _ k => x_callVK (ci := 10) (as := [zi (mI M 2230 2)]) (st := []) hK k10_wrong lm10_69 dX10_readsUnit_140 rfl (by decide) (zs8 rfl) h0.1 ⟨_, _, rfl⟩ hc8 k) ?_
      refine Xi.up (pc' := 144) (fun _ _ k => x_aload_n dX10_readsUnit_143 rfl rfl k) ?_
      refine Xi.up (pc' := 145) (fun _ _ k => x_iconst dX10_readsUnit_144 (show inR 1 from ⟨by decide, by decide⟩) k) ?_
      refine Xi.up (pc' := 146) (fun _ _ k => x_iload_n dX10_readsUnit_145 rfl rfl k) ?_
      refine Xi.up (pc' := 147) (fun _ _ k => x_iconst dX10_readsUnit_146 (show inR 0 from ⟨by decide, by decide⟩) k) ?_
      refine Xi.up (pc' := 148) (fun _ _ k => x_iconst dX10_readsUnit_147 (show inR 0 from ⟨by decide, by decide⟩) k) ?_
      obtain ⟨x10, M9, hc12, hK11, h⟩ := h
      refine Xi.up (pc' := 151) (st' := [zi x10]) (fun _ _ k => x_callVK (ci := 10) (as := [zi 1, zi l2, zi 0, zi 0]) (st := []) hK7 k10_writes lm10_87 dX10_readsUnit_148 rfl (by decide) (zs8 rfl) h0.1 ⟨_, _, rfl⟩ hc12 k) ?_
      exact Xi.ret ⟨dX10_readsUnit_151, Or.inl rfl⟩ h
  · have h := h.2 c
    refine Xi.up (pc' := 85) (fun _ _ k => x_aload_n dX10_readsUnit_84 rfl rfl k) ?_
    obtain ⟨x14, M13, hc16, hK15, h⟩ := h
    refine Xi.up (pc' := 88) (st' := [zi x14]) (fun _ _ k => x_callVK (ci := 10) (as := []) (st := []) hK k10_peek lm10_61 dX10_readsUnit_85 rfl (by decide) (zs8 rfl) h0.1 ⟨_, _, rfl⟩ hc16 k) ?_
    refine Xi.up (pc' := 89) (fun _ _ k => x_i2l dX10_readsUnit_88 k) ?_
    refine Xi.up (pc' := 92) (fun _ _ k => x_ldc2 ll10_94 dX10_readsUnit_89 (show inL 48 from ⟨by decide, by decide⟩) rfl k) ?_
    refine Xi.up (pc' := 95) (fun _ _ k => x_ldc2 ll10_96 dX10_readsUnit_92 (show inL 57 from ⟨by decide, by decide⟩) rfl k) ?_
    by_cases c : 48 ≤ x14 ∧ x14 ≤ 57
    · have h := h.1 c
      refine Xi.up (pc' := 98) (st' := [zi 1]) (fun _ _ k => x_in1 (st := []) lm10_43 dX10_readsUnit_95 (zs8 rfl) c k) ?_
      refine Xi.br (tgt := 127) (pc' := 101) ((1 : Int) = 0) (fun _ _ kt kf => x_if_eq dX10_readsUnit_98 rfl kt kf) (fun c => absurd c (by decide)) (fun _ => ?_)
      refine Xi.up (pc' := 103) (fun _ _ k => x_bipush dX10_readsUnit_101 (show inR 10 from ⟨by decide, by decide⟩) (by decide) k) ?_
      refine Xi.up (pc' := 104) (fun _ _ k => x_iload_n dX10_readsUnit_103 rfl rfl k) ?_
      obtain ⟨g17, h⟩ := h
      refine Xi.up (pc' := 105) (fun _ _ k => x_imul dX10_readsUnit_104 g17 k) ?_
      refine Xi.up (pc' := 106) (fun _ _ k => x_aload_n dX10_readsUnit_105 rfl rfl k) ?_
      obtain ⟨x19, M18, hc21, hK20, h⟩ := h
      refine Xi.up (pc' := 109) (st' := [zi x19, zi (10 * l2)]) (fun _ _ k => x_callVK (ci := 10) (as := []) (st := [zi (10 * l2)]) hK15 k10_peek lm10_61 dX10_readsUnit_106 rfl (by decide) (zs8 rfl) h0.1 ⟨_, _, rfl⟩ hc21 k) ?_
      obtain ⟨g22, h⟩ := h
      refine Xi.up (pc' := 110) (fun _ _ k => x_iadd dX10_readsUnit_109 g22 k) ?_
      refine Xi.up (pc' := 112) (fun _ _ k => x_bipush dX10_readsUnit_110 (show inR 48 from ⟨by decide, by decide⟩) (by decide) k) ?_
      obtain ⟨g23, h⟩ := h
      refine Xi.up (pc' := 113) (fun _ _ k => x_isub dX10_readsUnit_112 g23 k) ?_
      refine Xi.up (pc' := 114) (L' := [some (zr 2230), some (zi l1), some (zi (((10 * l2) + x19) - 48))]) (fun _ _ k => x_istore_n dX10_readsUnit_113 rfl (by decide) rfl k) ?_
      refine Xi.up (pc' := 115) (fun _ _ k => x_aload_n dX10_readsUnit_114 rfl rfl k) ?_
      refine Xi.up (pc' := 116) (fun _ _ k => x_dupR dX10_readsUnit_115 k) ?_
      refine Xi.up (pc' := 119) (fun _ _ k => x_getIK hK20 lf10_51 rfl dX10_readsUnit_116 h0.1 k) ?_
      refine Xi.up (pc' := 120) (fun _ _ k => x_iconst dX10_readsUnit_119 (show inR 1 from ⟨by decide, by decide⟩) k) ?_
      obtain ⟨g24, h⟩ := h
      refine Xi.up (pc' := 121) (fun _ _ k => x_iadd dX10_readsUnit_120 g24 k) ?_
      refine Xi.up (pc' := 124) (fun _ _ k => x_putIK hK20 lf10_51 rfl rfl (Or.inl rfl) dX10_readsUnit_121 h0.1 k) ?_
      have hK25 := KW.sI hK20 2230 2 ((mI M18 2230 2) + 1)
      refine Xi.up (pc' := 74) (fun _ _ k => x_goto dX10_readsUnit_124 rfl k) ?_
      exact h
    · have h := h.2 c
      refine Xi.up (pc' := 98) (st' := [zi 0]) (fun _ _ k => x_in0 (st := []) lm10_43 dX10_readsUnit_95 (zs8 rfl) c k) ?_
      refine Xi.br (tgt := 127) (pc' := 101) ((0 : Int) = 0) (fun _ _ kt kf => x_if_eq dX10_readsUnit_98 rfl kt kf) (fun _ => ?_) (fun c => absurd (by decide) c)
      refine Xi.up (pc' := 128) (fun _ _ k => x_aload_n dX10_readsUnit_127 rfl rfl k) ?_
      refine Xi.up (pc' := 131) (fun _ _ k => x_getIK hK15 lf10_51 rfl dX10_readsUnit_128 h0.1 k) ?_
      refine Xi.up (pc' := 132) (fun _ _ k => x_iload_n dX10_readsUnit_131 rfl rfl k) ?_
      refine Xi.br (tgt := 143) (pc' := 135) ((mI M13 2230 2) ≠ l1) (fun _ _ kt kf => x_icmp_ne dX10_readsUnit_132 rfl kt kf) (fun c => ?_) (fun c => ?_)
      · have h := h.1 c
        refine Xi.up (pc' := 144) (fun _ _ k => x_aload_n dX10_readsUnit_143 rfl rfl k) ?_
        refine Xi.up (pc' := 145) (fun _ _ k => x_iconst dX10_readsUnit_144 (show inR 1 from ⟨by decide, by decide⟩) k) ?_
        refine Xi.up (pc' := 146) (fun _ _ k => x_iload_n dX10_readsUnit_145 rfl rfl k) ?_
        refine Xi.up (pc' := 147) (fun _ _ k => x_iconst dX10_readsUnit_146 (show inR 0 from ⟨by decide, by decide⟩) k) ?_
        refine Xi.up (pc' := 148) (fun _ _ k => x_iconst dX10_readsUnit_147 (show inR 0 from ⟨by decide, by decide⟩) k) ?_
        obtain ⟨x27, M26, hc29, hK28, h⟩ := h
        refine Xi.up (pc' := 151) (st' := [zi x27]) (fun _ _ k => x_callVK (ci := 10) (as := [zi 1, zi l2, zi 0, zi 0]) (st := []) hK15 k10_writes lm10_87 dX10_readsUnit_148 rfl (by decide) (zs8 rfl) h0.1 ⟨_, _, rfl⟩ hc29 k) ?_
        exact Xi.ret ⟨dX10_readsUnit_151, Or.inl rfl⟩ h
      · have h := h.2 c
        refine Xi.up (pc' := 136) (fun _ _ k => x_aload_n dX10_readsUnit_135 rfl rfl k) ?_
        refine Xi.up (pc' := 137) (fun _ _ k => x_aload_n dX10_readsUnit_136 rfl rfl k) ?_
        refine Xi.up (pc' := 140) (fun _ _ k => x_getIK hK15 lf10_51 rfl dX10_readsUnit_137 h0.1 k) ?_
        obtain ⟨M30, hc32, hK31, h⟩ := h
        refine Xi.up (pc' := 143) (st' := []) (fun _ _ k => x_callVK (ci := 10) (as := [zi (mI M13 2230 2)]) (st := []) hK15 k10_wrong lm10_69 dX10_readsUnit_140 rfl (by decide) (zs8 rfl) h0.1 ⟨_, _, rfl⟩ hc32 k) ?_
        refine Xi.up (pc' := 144) (fun _ _ k => x_aload_n dX10_readsUnit_143 rfl rfl k) ?_
        refine Xi.up (pc' := 145) (fun _ _ k => x_iconst dX10_readsUnit_144 (show inR 1 from ⟨by decide, by decide⟩) k) ?_
        refine Xi.up (pc' := 146) (fun _ _ k => x_iload_n dX10_readsUnit_145 rfl rfl k) ?_
        refine Xi.up (pc' := 147) (fun _ _ k => x_iconst dX10_readsUnit_146 (show inR 0 from ⟨by decide, by decide⟩) k) ?_
        refine Xi.up (pc' := 148) (fun _ _ k => x_iconst dX10_readsUnit_147 (show inR 0 from ⟨by decide, by decide⟩) k) ?_
        obtain ⟨x34, M33, hc36, hK35, h⟩ := h
        refine Xi.up (pc' := 151) (st' := [zi x34]) (fun _ _ k => x_callVK (ci := 10) (as := [zi 1, zi l2, zi 0, zi 0]) (st := []) hK31 k10_writes lm10_87 dX10_readsUnit_148 rfl (by decide) (zs8 rfl) h0.1 ⟨_, _, rfl⟩ hc36 k) ?_
        exact Xi.ret ⟨dX10_readsUnit_151, Or.inl rfl⟩ h
set_option maxHeartbeats 4000000 in
set_option maxRecDepth 20000 in
theorem B10_readsProduct {d : Nat} {K M : ZMem} {Q : Int → ZMem → Prop}  (hK : KW K M) (h0 : ModelAt K 2230) (h : Ci d q10_readsUnit [zr 2230] M (fun x2 M1 => KW K M1 ∧ Xi (d + 1) q10_readsProduct 5 [some (zr 2230), some (zi x2), none] [] M1 Q)) : Ci (d + 1) q10_readsProduct [zr 2230] M Q := by
  refine Ci.of rfl rfl (Nat.le_of_ble_eq_true rfl) (fun w hw x e => by subst e; simp at hw) (L := [some (zr 2230), none, none]) rfl ?_
  refine Xi.up (pc' := 1) (fun _ _ k => x_aload_n dX10_readsProduct_0 rfl rfl k) ?_
  obtain ⟨x2, M1, hc4, hK3, h⟩ := h
  refine Xi.up (pc' := 4) (st' := [zi x2]) (fun _ _ k => x_callVK (ci := 10) (as := []) (st := []) hK k10_readsUnit lm10_91 dX10_readsProduct_1 rfl (by decide) (zs8 rfl) h0.1 ⟨_, _, rfl⟩ hc4 k) ?_
  refine Xi.up (pc' := 5) (L' := [some (zr 2230), some (zi x2), none]) (fun _ _ k => x_istore_n dX10_readsProduct_4 rfl (by decide) rfl k) ?_
  exact h
set_option maxHeartbeats 4000000 in
set_option maxRecDepth 20000 in
theorem B10_readsProduct_5 {d : Nat} {K M : ZMem} {Q : Int → ZMem → Prop} (l1 : Int) (hK : KW K M) (h0 : ModelAt K 2230) (h : Ci d q10_takes [zr 2230, zi 42] M (fun x2 M1 => KW K M1 ∧ ((x2 = 0 → (Q l1 M1)) ∧ (¬ (x2 = 0) → (Ci d q10_readsUnit [zr 2230] M1 (fun x6 M5 => KW K M5 ∧ Ci d q10_writes [zr 2230, zi 5, zi l1, zi x6, zi 0] M5 (fun x10 M9 => KW K M9 ∧ Xi (d + 1) q10_readsProduct 5 [some (zr 2230), some (zi x10), none] [] M9 Q))))))) : Xi (d + 1) q10_readsProduct 5 [some (zr 2230), some (zi l1), none] [] M Q := by
  refine Xi.up (pc' := 6) (fun _ _ k => x_aload_n dX10_readsProduct_5 rfl rfl k) ?_
  refine Xi.up (pc' := 8) (fun _ _ k => x_bipush dX10_readsProduct_6 (show inR 42 from ⟨by decide, by decide⟩) (by decide) k) ?_
  obtain ⟨x2, M1, hc4, hK3, h⟩ := h
  refine Xi.up (pc' := 11) (st' := [zi x2]) (fun _ _ k => x_callVK (ci := 10) (as := [zi 42]) (st := []) hK k10_takes lm10_65 dX10_readsProduct_8 rfl (by decide) (zs8 rfl) h0.1 ⟨_, _, rfl⟩ hc4 k) ?_
  refine Xi.br (tgt := 31) (pc' := 14) (x2 = 0) (fun _ _ kt kf => x_if_eq dX10_readsProduct_11 rfl kt kf) (fun c => ?_) (fun c => ?_)
  · have h := h.1 c
    refine Xi.up (pc' := 32) (fun _ _ k => x_iload_n dX10_readsProduct_31 rfl rfl k) ?_
    exact Xi.ret ⟨dX10_readsProduct_32, Or.inl rfl⟩ h
  · have h := h.2 c
    refine Xi.up (pc' := 15) (fun _ _ k => x_aload_n dX10_readsProduct_14 rfl rfl k) ?_
    obtain ⟨x6, M5, hc8, hK7, h⟩ := h
    refine Xi.up (pc' := 18) (st' := [zi x6]) (fun _ _ k => x_callVK (ci := 10) (as := []) (st := []) hK3 k10_readsUnit lm10_91 dX10_readsProduct_15 rfl (by decide) (zs8 rfl) h0.1 ⟨_, _, rfl⟩ hc8 k) ?_
    refine Xi.up (pc' := 19) (L' := [some (zr 2230), some (zi l1), some (zi x6)]) (fun _ _ k => x_istore_n dX10_readsProduct_18 rfl (by decide) rfl k) ?_
    refine Xi.up (pc' := 20) (fun _ _ k => x_aload_n dX10_readsProduct_19 rfl rfl k) ?_
    refine Xi.up (pc' := 21) (fun _ _ k => x_iconst dX10_readsProduct_20 (show inR 5 from ⟨by decide, by decide⟩) k) ?_
    refine Xi.up (pc' := 22) (fun _ _ k => x_iload_n dX10_readsProduct_21 rfl rfl k) ?_
    refine Xi.up (pc' := 23) (fun _ _ k => x_iload_n dX10_readsProduct_22 rfl rfl k) ?_
    refine Xi.up (pc' := 24) (fun _ _ k => x_iconst dX10_readsProduct_23 (show inR 0 from ⟨by decide, by decide⟩) k) ?_
    obtain ⟨x10, M9, hc12, hK11, h⟩ := h
    refine Xi.up (pc' := 27) (st' := [zi x10]) (fun _ _ k => x_callVK (ci := 10) (as := [zi 5, zi l1, zi x6, zi 0]) (st := []) hK7 k10_writes lm10_87 dX10_readsProduct_24 rfl (by decide) (zs8 rfl) h0.1 ⟨_, _, rfl⟩ hc12 k) ?_
    refine Xi.up (pc' := 28) (L' := [some (zr 2230), some (zi x10), some (zi x6)]) (fun _ _ k => x_istore_n dX10_readsProduct_27 rfl (by decide) rfl k) ?_
    refine Xi.up (pc' := 5) (fun _ _ k => x_goto dX10_readsProduct_28 rfl k) ?_
    exact Xi.up (fun _ _ k => x_less (L' := [some (zr 2230), some (zi x10), none]) (⟨rfl, ⟨rfl, trivial⟩⟩) k) h
set_option maxHeartbeats 4000000 in
set_option maxRecDepth 20000 in
theorem B10_readsSum {d : Nat} {K M : ZMem} {Q : Int → ZMem → Prop}  (hK : KW K M) (h0 : ModelAt K 2230) (h : Ci d q10_readsProduct [zr 2230] M (fun x2 M1 => KW K M1 ∧ Xi (d + 1) q10_readsSum 5 [some (zr 2230), some (zi x2), none, none] [] M1 Q)) : Ci (d + 1) q10_readsSum [zr 2230] M Q := by
  refine Ci.of rfl rfl (Nat.le_of_ble_eq_true rfl) (fun w hw x e => by subst e; simp at hw) (L := [some (zr 2230), none, none, none]) rfl ?_
  refine Xi.up (pc' := 1) (fun _ _ k => x_aload_n dX10_readsSum_0 rfl rfl k) ?_
  obtain ⟨x2, M1, hc4, hK3, h⟩ := h
  refine Xi.up (pc' := 4) (st' := [zi x2]) (fun _ _ k => x_callVK (ci := 10) (as := []) (st := []) hK k10_readsProduct lm10_98 dX10_readsSum_1 rfl (by decide) (zs8 rfl) h0.1 ⟨_, _, rfl⟩ hc4 k) ?_
  refine Xi.up (pc' := 5) (L' := [some (zr 2230), some (zi x2), none, none]) (fun _ _ k => x_istore_n dX10_readsSum_4 rfl (by decide) rfl k) ?_
  exact h
set_option maxHeartbeats 4000000 in
set_option maxRecDepth 20000 in
theorem B10_readsSum_5 {d : Nat} {K M : ZMem} {Q : Int → ZMem → Prop} (l1 : Int) (hK : KW K M) (h0 : ModelAt K 2230) (h : ((0 ≤ (mI M 2230 3) → (Q l1 M)) ∧ (¬ (0 ≤ (mI M 2230 3)) → (Ci d q10_peek [zr 2230] M (fun x2 M1 => KW K M1 ∧ ((x2 = 43 → (Ci d q10_peek [zr 2230] M1 (fun x6 M5 => KW K M5 ∧ (inR ((mI M5 2230 2) + 1)) ∧ Ci d q10_readsProduct [zr 2230] (sI M5 2230 2 ((mI M5 2230 2) + 1)) (fun x12 M11 => KW K M11 ∧ ((x6 ≠ 43 → (Ci d q10_writes [zr 2230, zi 4, zi l1, zi x12, zi 0] M11 (fun x16 M15 => KW K M15 ∧ Xi (d + 1) q10_readsSum 5 [some (zr 2230), some (zi x16), none, none] [] M15 Q))) ∧ (¬ (x6 ≠ 43) → (Ci d q10_writes [zr 2230, zi 3, zi l1, zi x12, zi 0] M11 (fun x20 M19 => KW K M19 ∧ Xi (d + 1) q10_readsSum 5 [some (zr 2230), some (zi x20), none, none] [] M19 Q)))))))) ∧ (¬ (x2 = 43) → (Ci d q10_peek [zr 2230] M1 (fun x24 M23 => KW K M23 ∧ ((x24 ≠ 45 → (Q l1 M23)) ∧ (¬ (x24 ≠ 45) → (Ci d q10_peek [zr 2230] M23 (fun x28 M27 => KW K M27 ∧ (inR ((mI M27 2230 2) + 1)) ∧ Ci d q10_readsProduct [zr 2230] (sI M27 2230 2 ((mI M27 2230 2) + 1)) (fun x34 M33 => KW K M33 ∧ ((x28 ≠ 43 → (Ci d q10_writes [zr 2230, zi 4, zi l1, zi x34, zi 0] M33 (fun x38 M37 => KW K M37 ∧ Xi (d + 1) q10_readsSum 5 [some (zr 2230), some (zi x38), none, none] [] M37 Q))) ∧ (¬ (x28 ≠ 43) → (Ci d q10_writes [zr 2230, zi 3, zi l1, zi x34, zi 0] M33 (fun x42 M41 => KW K M41 ∧ Xi (d + 1) q10_readsSum 5 [some (zr 2230), some (zi x42), none, none] [] M41 Q)))))))))))))))))) : Xi (d + 1) q10_readsSum 5 [some (zr 2230), some (zi l1), none, none] [] M Q := by
  refine Xi.up (pc' := 6) (fun _ _ k => x_aload_n dX10_readsSum_5 rfl rfl k) ?_
  refine Xi.up (pc' := 9) (fun _ _ k => x_getIK hK lf10_58 rfl dX10_readsSum_6 h0.1 k) ?_
  refine Xi.br (tgt := 72) (pc' := 12) (0 ≤ (mI M 2230 3)) (fun _ _ kt kf => x_if_ge dX10_readsSum_9 rfl kt kf) (fun c => ?_) (fun c => ?_)
  · have h := h.1 c
    refine Xi.up (pc' := 73) (fun _ _ k => x_iload_n dX10_readsSum_72 rfl rfl k) ?_
    exact Xi.ret ⟨dX10_readsSum_73, Or.inl rfl⟩ h
  · have h := h.2 c
    refine Xi.up (pc' := 13) (fun _ _ k => x_aload_n dX10_readsSum_12 rfl rfl k) ?_
    obtain ⟨x2, M1, hc4, hK3, h⟩ := h
    refine Xi.up (pc' := 16) (st' := [zi x2]) (fun _ _ k => x_callVK (ci := 10) (as := []) (st := []) hK k10_peek lm10_61 dX10_readsSum_13 rfl (by decide) (zs8 rfl) h0.1 ⟨_, _, rfl⟩ hc4 k) ?_
    refine Xi.up (pc' := 18) (fun _ _ k => x_bipush dX10_readsSum_16 (show inR 43 from ⟨by decide, by decide⟩) (by decide) k) ?_
    refine Xi.br (tgt := 30) (pc' := 21) (x2 = 43) (fun _ _ kt kf => x_icmp_eq dX10_readsSum_18 rfl kt kf) (fun c => ?_) (fun c => ?_)
    · have h := h.1 c
      refine Xi.up (pc' := 31) (fun _ _ k => x_aload_n dX10_readsSum_30 rfl rfl k) ?_
      obtain ⟨x6, M5, hc8, hK7, h⟩ := h
      refine Xi.up (pc' := 34) (st' := [zi x6]) (fun _ _ k => x_callVK (ci := 10) (as := []) (st := []) hK3 k10_peek lm10_61 dX10_readsSum_31 rfl (by decide) (zs8 rfl) h0.1 ⟨_, _, rfl⟩ hc8 k) ?_
      refine Xi.up (pc' := 35) (L' := [some (zr 2230), some (zi l1), some (zi x6), none]) (fun _ _ k => x_istore_n dX10_readsSum_34 rfl (by decide) rfl k) ?_
      refine Xi.up (pc' := 36) (fun _ _ k => x_aload_n dX10_readsSum_35 rfl rfl k) ?_
      refine Xi.up (pc' := 37) (fun _ _ k => x_dupR dX10_readsSum_36 k) ?_
      refine Xi.up (pc' := 40) (fun _ _ k => x_getIK hK7 lf10_51 rfl dX10_readsSum_37 h0.1 k) ?_
      refine Xi.up (pc' := 41) (fun _ _ k => x_iconst dX10_readsSum_40 (show inR 1 from ⟨by decide, by decide⟩) k) ?_
      obtain ⟨g9, h⟩ := h
      refine Xi.up (pc' := 42) (fun _ _ k => x_iadd dX10_readsSum_41 g9 k) ?_
      refine Xi.up (pc' := 45) (fun _ _ k => x_putIK hK7 lf10_51 rfl rfl (Or.inl rfl) dX10_readsSum_42 h0.1 k) ?_
      have hK10 := KW.sI hK7 2230 2 ((mI M5 2230 2) + 1)
      refine Xi.up (pc' := 46) (fun _ _ k => x_aload_n dX10_readsSum_45 rfl rfl k) ?_
      obtain ⟨x12, M11, hc14, hK13, h⟩ := h
      refine Xi.up (pc' := 49) (st' := [zi x12]) (fun _ _ k => x_callVK (ci := 10) (as := []) (st := []) hK10 k10_readsProduct lm10_98 dX10_readsSum_46 rfl (by decide) (zs8 rfl) h0.1 ⟨_, _, rfl⟩ hc14 k) ?_
      refine Xi.up (pc' := 50) (L' := [some (zr 2230), some (zi l1), some (zi x6), some (zi x12)]) (fun _ _ k => x_istore_n dX10_readsSum_49 rfl (by decide) rfl k) ?_
      refine Xi.up (pc' := 51) (fun _ _ k => x_aload_n dX10_readsSum_50 rfl rfl k) ?_
      refine Xi.up (pc' := 52) (fun _ _ k => x_iload_n dX10_readsSum_51 rfl rfl k) ?_
      refine Xi.up (pc' := 54) (fun _ _ k => x_bipush dX10_readsSum_52 (show inR 43 from ⟨by decide, by decide⟩) (by decide) k) ?_
      refine Xi.br (tgt := 61) (pc' := 57) (x6 ≠ 43) (fun _ _ kt kf => x_icmp_ne dX10_readsSum_54 rfl kt kf) (fun c => ?_) (fun c => ?_)
      · have h := h.1 c
        refine Xi.up (pc' := 62) (fun _ _ k => x_iconst dX10_readsSum_61 (show inR 4 from ⟨by decide, by decide⟩) k) ?_
        refine Xi.up (pc' := 63) (fun _ _ k => x_iload_n dX10_readsSum_62 rfl rfl k) ?_
        refine Xi.up (pc' := 64) (fun _ _ k => x_iload_n dX10_readsSum_63 rfl rfl k) ?_
        refine Xi.up (pc' := 65) (fun _ _ k => x_iconst dX10_readsSum_64 (show inR 0 from ⟨by decide, by decide⟩) k) ?_
        obtain ⟨x16, M15, hc18, hK17, h⟩ := h
        refine Xi.up (pc' := 68) (st' := [zi x16]) (fun _ _ k => x_callVK (ci := 10) (as := [zi 4, zi l1, zi x12, zi 0]) (st := []) hK13 k10_writes lm10_87 dX10_readsSum_65 rfl (by decide) (zs8 rfl) h0.1 ⟨_, _, rfl⟩ hc18 k) ?_
        refine Xi.up (pc' := 69) (L' := [some (zr 2230), some (zi x16), some (zi x6), some (zi x12)]) (fun _ _ k => x_istore_n dX10_readsSum_68 rfl (by decide) rfl k) ?_
        refine Xi.up (pc' := 5) (fun _ _ k => x_goto dX10_readsSum_69 rfl k) ?_
        exact Xi.up (fun _ _ k => x_less (L' := [some (zr 2230), some (zi x16), none, none]) (⟨rfl, ⟨rfl, trivial⟩⟩) k) h
      · have h := h.2 c
        refine Xi.up (pc' := 58) (fun _ _ k => x_iconst dX10_readsSum_57 (show inR 3 from ⟨by decide, by decide⟩) k) ?_
        refine Xi.up (pc' := 62) (fun _ _ k => x_goto dX10_readsSum_58 rfl k) ?_
        refine Xi.up (pc' := 63) (fun _ _ k => x_iload_n dX10_readsSum_62 rfl rfl k) ?_
        refine Xi.up (pc' := 64) (fun _ _ k => x_iload_n dX10_readsSum_63 rfl rfl k) ?_
        refine Xi.up (pc' := 65) (fun _ _ k => x_iconst dX10_readsSum_64 (show inR 0 from ⟨by decide, by decide⟩) k) ?_
        obtain ⟨x20, M19, hc22, hK21, h⟩ := h
        refine Xi.up (pc' := 68) (st' := [zi x20]) (fun _ _ k => x_callVK (ci := 10) (as := [zi 3, zi l1, zi x12, zi 0]) (st := []) hK13 k10_writes lm10_87 dX10_readsSum_65 rfl (by decide) (zs8 rfl) h0.1 ⟨_, _, rfl⟩ hc22 k) ?_
        refine Xi.up (pc' := 69) (L' := [some (zr 2230), some (zi x20), some (zi x6), some (zi x12)]) (fun _ _ k => x_istore_n dX10_readsSum_68 rfl (by decide) rfl k) ?_
        refine Xi.up (pc' := 5) (fun _ _ k => x_goto dX10_readsSum_69 rfl k) ?_
        exact Xi.up (fun _ _ k => x_less (L' := [some (zr 2230), some (zi x20), none, none]) (⟨rfl, ⟨rfl, trivial⟩⟩) k) h
    · have h := h.2 c
      refine Xi.up (pc' := 22) (fun _ _ k => x_aload_n dX10_readsSum_21 rfl rfl k) ?_
      obtain ⟨x24, M23, hc26, hK25, h⟩ := h
      refine Xi.up (pc' := 25) (st' := [zi x24]) (fun _ _ k => x_callVK (ci := 10) (as := []) (st := []) hK3 k10_peek lm10_61 dX10_readsSum_22 rfl (by decide) (zs8 rfl) h0.1 ⟨_, _, rfl⟩ hc26 k) ?_
      refine Xi.up (pc' := 27) (fun _ _ k => x_bipush dX10_readsSum_25 (show inR 45 from ⟨by decide, by decide⟩) (by decide) k) ?_
      refine Xi.br (tgt := 72) (pc' := 30) (x24 ≠ 45) (fun _ _ kt kf => x_icmp_ne dX10_readsSum_27 rfl kt kf) (fun c => ?_) (fun c => ?_)
      · have h := h.1 c
        refine Xi.up (pc' := 73) (fun _ _ k => x_iload_n dX10_readsSum_72 rfl rfl k) ?_
        exact Xi.ret ⟨dX10_readsSum_73, Or.inl rfl⟩ h
      · have h := h.2 c
        refine Xi.up (pc' := 31) (fun _ _ k => x_aload_n dX10_readsSum_30 rfl rfl k) ?_
        obtain ⟨x28, M27, hc30, hK29, h⟩ := h
        refine Xi.up (pc' := 34) (st' := [zi x28]) (fun _ _ k => x_callVK (ci := 10) (as := []) (st := []) hK25 k10_peek lm10_61 dX10_readsSum_31 rfl (by decide) (zs8 rfl) h0.1 ⟨_, _, rfl⟩ hc30 k) ?_
        refine Xi.up (pc' := 35) (L' := [some (zr 2230), some (zi l1), some (zi x28), none]) (fun _ _ k => x_istore_n dX10_readsSum_34 rfl (by decide) rfl k) ?_
        refine Xi.up (pc' := 36) (fun _ _ k => x_aload_n dX10_readsSum_35 rfl rfl k) ?_
        refine Xi.up (pc' := 37) (fun _ _ k => x_dupR dX10_readsSum_36 k) ?_
        refine Xi.up (pc' := 40) (fun _ _ k => x_getIK hK29 lf10_51 rfl dX10_readsSum_37 h0.1 k) ?_
        refine Xi.up (pc' := 41) (fun _ _ k => x_iconst dX10_readsSum_40 (show inR 1 from ⟨by decide, by decide⟩) k) ?_
        obtain ⟨g31, h⟩ := h
        refine Xi.up (pc' := 42) (fun _ _ k => x_iadd dX10_readsSum_41 g31 k) ?_
        refine Xi.up (pc' := 45) (fun _ _ k => x_putIK hK29 lf10_51 rfl rfl (Or.inl rfl) dX10_readsSum_42 h0.1 k) ?_
        have hK32 := KW.sI hK29 2230 2 ((mI M27 2230 2) + 1)
        refine Xi.up (pc' := 46) (fun _ _ k => x_aload_n dX10_readsSum_45 rfl rfl k) ?_
        obtain ⟨x34, M33, hc36, hK35, h⟩ := h
        refine Xi.up (pc' := 49) (st' := [zi x34]) (fun _ _ k => x_callVK (ci := 10) (as := []) (st := []) hK32 k10_readsProduct lm10_98 dX10_readsSum_46 rfl (by decide) (zs8 rfl) h0.1 ⟨_, _, rfl⟩ hc36 k) ?_
        refine Xi.up (pc' := 50) (L' := [some (zr 2230), some (zi l1), some (zi x28), some (zi x34)]) (fun _ _ k => x_istore_n dX10_readsSum_49 rfl (by decide) rfl k) ?_
        refine Xi.up (pc' := 51) (fun _ _ k => x_aload_n dX10_readsSum_50 rfl rfl k) ?_
        refine Xi.up (pc' := 52) (fun _ _ k => x_iload_n dX10_readsSum_51 rfl rfl k) ?_
        refine Xi.up (pc' := 54) (fun _ _ k => x_bipush dX10_readsSum_52 (show inR 43 from ⟨by decide, by decide⟩) (by decide) k) ?_
        refine Xi.br (tgt := 61) (pc' := 57) (x28 ≠ 43) (fun _ _ kt kf => x_icmp_ne dX10_readsSum_54 rfl kt kf) (fun c => ?_) (fun c => ?_)
        · have h := h.1 c
          refine Xi.up (pc' := 62) (fun _ _ k => x_iconst dX10_readsSum_61 (show inR 4 from ⟨by decide, by decide⟩) k) ?_
          refine Xi.up (pc' := 63) (fun _ _ k => x_iload_n dX10_readsSum_62 rfl rfl k) ?_
          refine Xi.up (pc' := 64) (fun _ _ k => x_iload_n dX10_readsSum_63 rfl rfl k) ?_
          refine Xi.up (pc' := 65) (fun _ _ k => x_iconst dX10_readsSum_64 (show inR 0 from ⟨by decide, by decide⟩) k) ?_
          obtain ⟨x38, M37, hc40, hK39, h⟩ := h
          refine Xi.up (pc' := 68) (st' := [zi x38]) (fun _ _ k => x_callVK (ci := 10) (as := [zi 4, zi l1, zi x34, zi 0]) (st := []) hK35 k10_writes lm10_87 dX10_readsSum_65 rfl (by decide) (zs8 rfl) h0.1 ⟨_, _, rfl⟩ hc40 k) ?_
          refine Xi.up (pc' := 69) (L' := [some (zr 2230), some (zi x38), some (zi x28), some (zi x34)]) (fun _ _ k => x_istore_n dX10_readsSum_68 rfl (by decide) rfl k) ?_
          refine Xi.up (pc' := 5) (fun _ _ k => x_goto dX10_readsSum_69 rfl k) ?_
          exact Xi.up (fun _ _ k => x_less (L' := [some (zr 2230), some (zi x38), none, none]) (⟨rfl, ⟨rfl, trivial⟩⟩) k) h
        · have h := h.2 c
          refine Xi.up (pc' := 58) (fun _ _ k => x_iconst dX10_readsSum_57 (show inR 3 from ⟨by decide, by decide⟩) k) ?_
          refine Xi.up (pc' := 62) (fun _ _ k => x_goto dX10_readsSum_58 rfl k) ?_
          refine Xi.up (pc' := 63) (fun _ _ k => x_iload_n dX10_readsSum_62 rfl rfl k) ?_
          refine Xi.up (pc' := 64) (fun _ _ k => x_iload_n dX10_readsSum_63 rfl rfl k) ?_
          refine Xi.up (pc' := 65) (fun _ _ k => x_iconst dX10_readsSum_64 (show inR 0 from ⟨by decide, by decide⟩) k) ?_
          obtain ⟨x42, M41, hc44, hK43, h⟩ := h
          refine Xi.up (pc' := 68) (st' := [zi x42]) (fun _ _ k => x_callVK (ci := 10) (as := [zi 3, zi l1, zi x34, zi 0]) (st := []) hK35 k10_writes lm10_87 dX10_readsSum_65 rfl (by decide) (zs8 rfl) h0.1 ⟨_, _, rfl⟩ hc44 k) ?_
          refine Xi.up (pc' := 69) (L' := [some (zr 2230), some (zi x42), some (zi x28), some (zi x34)]) (fun _ _ k => x_istore_n dX10_readsSum_68 rfl (by decide) rfl k) ?_
          refine Xi.up (pc' := 5) (fun _ _ k => x_goto dX10_readsSum_69 rfl k) ?_
          exact Xi.up (fun _ _ k => x_less (L' := [some (zr 2230), some (zi x42), none, none]) (⟨rfl, ⟨rfl, trivial⟩⟩) k) h
set_option maxHeartbeats 4000000 in
set_option maxRecDepth 20000 in
theorem B10_readsProgram {d : Nat} {K M : ZMem} {Q : Int → ZMem → Prop}  (hK : KW K M) (h0 : ModelAt K 2230) (h : Ci d q10_readsStep [zr 2230] M (fun x2 M1 => KW K M1 ∧ Xi (d + 1) q10_readsProgram 7 [some (zr 2230), some (zi x2), some (zi x2), none] [] M1 Q)) : Ci (d + 1) q10_readsProgram [zr 2230] M Q := by
  refine Ci.of rfl rfl (Nat.le_of_ble_eq_true rfl) (fun w hw x e => by subst e; simp at hw) (L := [some (zr 2230), none, none, none]) rfl ?_
  refine Xi.up (pc' := 1) (fun _ _ k => x_aload_n dX10_readsProgram_0 rfl rfl k) ?_
  obtain ⟨x2, M1, hc4, hK3, h⟩ := h
  refine Xi.up (pc' := 4) (st' := [zi x2]) (fun _ _ k => x_callVK (ci := 10) (as := []) (st := []) hK k10_readsStep lm10_101 dX10_readsProgram_1 rfl (by decide) (zs8 rfl) h0.1 ⟨_, _, rfl⟩ hc4 k) ?_
  refine Xi.up (pc' := 5) (L' := [some (zr 2230), some (zi x2), none, none]) (fun _ _ k => x_istore_n dX10_readsProgram_4 rfl (by decide) rfl k) ?_
  refine Xi.up (pc' := 6) (fun _ _ k => x_iload_n dX10_readsProgram_5 rfl rfl k) ?_
  refine Xi.up (pc' := 7) (L' := [some (zr 2230), some (zi x2), some (zi x2), none]) (fun _ _ k => x_istore_n dX10_readsProgram_6 rfl (by decide) rfl k) ?_
  exact h
set_option maxHeartbeats 4000000 in
set_option maxRecDepth 20000 in
theorem B10_readsProgram_7 {d : Nat} {K M : ZMem} {Q : Int → ZMem → Prop} (l1 : Int) (l2 : Int) (hK : KW K M) (h0 : ModelAt K 2230) (h : Ci d q10_takes [zr 2230, zi 59] M (fun x2 M1 => KW K M1 ∧ ((x2 = 0 → (Q l1 M1)) ∧ (¬ (x2 = 0) → (Ci d q10_readsStep [zr 2230] M1 (fun x6 M5 => KW K M5 ∧ (((mI M5 2230 3) < 0 → ((0 ≤ l2) ∧ (l2 < 70200) ∧ Xi (d + 1) q10_readsProgram 7 [some (zr 2230), some (zi l1), some (zi x6), none] [] (sI M5 2236 l2.toNat x6) Q)) ∧ (¬ ((mI M5 2230 3) < 0) → ((0 ≤ l2) ∧ (l2 < 70200) ∧ (0 ≤ l2) ∧ (l2 < 70200) ∧ Xi (d + 1) q10_readsProgram 7 [some (zr 2230), some (zi l1), some (zi x6), none] [] (sI M5 2236 l2.toNat (mI M5 2236 l2.toNat)) Q))))))))) : Xi (d + 1) q10_readsProgram 7 [some (zr 2230), some (zi l1), some (zi l2), none] [] M Q := by
  refine Xi.up (pc' := 8) (fun _ _ k => x_aload_n dX10_readsProgram_7 rfl rfl k) ?_
  refine Xi.up (pc' := 10) (fun _ _ k => x_bipush dX10_readsProgram_8 (show inR 59 from ⟨by decide, by decide⟩) (by decide) k) ?_
  obtain ⟨x2, M1, hc4, hK3, h⟩ := h
  refine Xi.up (pc' := 13) (st' := [zi x2]) (fun _ _ k => x_callVK (ci := 10) (as := [zi 59]) (st := []) hK k10_takes lm10_65 dX10_readsProgram_10 rfl (by decide) (zs8 rfl) h0.1 ⟨_, _, rfl⟩ hc4 k) ?_
  refine Xi.br (tgt := 49) (pc' := 16) (x2 = 0) (fun _ _ kt kf => x_if_eq dX10_readsProgram_13 rfl kt kf) (fun c => ?_) (fun c => ?_)
  · have h := h.1 c
    refine Xi.up (pc' := 50) (fun _ _ k => x_iload_n dX10_readsProgram_49 rfl rfl k) ?_
    exact Xi.ret ⟨dX10_readsProgram_50, Or.inl rfl⟩ h
  · have h := h.2 c
    refine Xi.up (pc' := 17) (fun _ _ k => x_aload_n dX10_readsProgram_16 rfl rfl k) ?_
    obtain ⟨x6, M5, hc8, hK7, h⟩ := h
    refine Xi.up (pc' := 20) (st' := [zi x6]) (fun _ _ k => x_callVK (ci := 10) (as := []) (st := []) hK3 k10_readsStep lm10_101 dX10_readsProgram_17 rfl (by decide) (zs8 rfl) h0.1 ⟨_, _, rfl⟩ hc8 k) ?_
    refine Xi.up (pc' := 21) (L' := [some (zr 2230), some (zi l1), some (zi l2), some (zi x6)]) (fun _ _ k => x_istore_n dX10_readsProgram_20 rfl (by decide) rfl k) ?_
    refine Xi.up (pc' := 22) (fun _ _ k => x_aload_n dX10_readsProgram_21 rfl rfl k) ?_
    refine Xi.up (pc' := 25) (fun _ _ k => x_getRK hK7 lf10_26 rfl dX10_readsProgram_22 h0.1 h0.2.2.2.2.2.2.1 k) ?_
    refine Xi.up (pc' := 26) (fun _ _ k => x_iload_n dX10_readsProgram_25 rfl rfl k) ?_
    refine Xi.up (pc' := 27) (fun _ _ k => x_aload_n dX10_readsProgram_26 rfl rfl k) ?_
    refine Xi.up (pc' := 30) (fun _ _ k => x_getIK hK7 lf10_58 rfl dX10_readsProgram_27 h0.1 k) ?_
    refine Xi.br (tgt := 42) (pc' := 33) ((mI M5 2230 3) < 0) (fun _ _ kt kf => x_if_lt dX10_readsProgram_30 rfl kt kf) (fun c => ?_) (fun c => ?_)
    · have h := h.1 c
      refine Xi.up (pc' := 43) (fun _ _ k => x_iload_n dX10_readsProgram_42 rfl rfl k) ?_
      obtain ⟨g9, h⟩ := h
      obtain ⟨g10, h⟩ := h
      refine Xi.up (pc' := 44) (fun _ _ k => x_iastoreK hK7 dX10_readsProgram_43 h0.2.2.2.2.2.2.2.2.2.2.2.2.2.2.2.2.1 g9 g10 k) ?_
      have hK11 := KW.sI hK7 2236 l2.toNat x6
      refine Xi.up (pc' := 45) (fun _ _ k => x_iload_n dX10_readsProgram_44 rfl rfl k) ?_
      refine Xi.up (pc' := 46) (L' := [some (zr 2230), some (zi l1), some (zi x6), some (zi x6)]) (fun _ _ k => x_istore_n dX10_readsProgram_45 rfl (by decide) rfl k) ?_
      refine Xi.up (pc' := 7) (fun _ _ k => x_goto dX10_readsProgram_46 rfl k) ?_
      exact Xi.up (fun _ _ k => x_less (L' := [some (zr 2230), some (zi l1), some (zi x6), none]) (⟨rfl, ⟨rfl, ⟨rfl, trivial⟩⟩⟩) k) h
    · have h := h.2 c
      refine Xi.up (pc' := 34) (fun _ _ k => x_aload_n dX10_readsProgram_33 rfl rfl k) ?_
      refine Xi.up (pc' := 37) (fun _ _ k => x_getRK hK7 lf10_26 rfl dX10_readsProgram_34 h0.1 h0.2.2.2.2.2.2.1 k) ?_
      refine Xi.up (pc' := 38) (fun _ _ k => x_iload_n dX10_readsProgram_37 rfl rfl k) ?_
      obtain ⟨g12, h⟩ := h
      obtain ⟨g13, h⟩ := h
      refine Xi.up (pc' := 39) (fun _ _ k => x_ialoadK hK7 dX10_readsProgram_38 h0.2.2.2.2.2.2.2.2.2.2.2.2.2.2.2.2.1 g12 g13 k) ?_
      refine Xi.up (pc' := 43) (fun _ _ k => x_goto dX10_readsProgram_39 rfl k) ?_
      obtain ⟨g14, h⟩ := h
      obtain ⟨g15, h⟩ := h
      refine Xi.up (pc' := 44) (fun _ _ k => x_iastoreK hK7 dX10_readsProgram_43 h0.2.2.2.2.2.2.2.2.2.2.2.2.2.2.2.2.1 g14 g15 k) ?_
      have hK16 := KW.sI hK7 2236 l2.toNat (mI M5 2236 l2.toNat)
      refine Xi.up (pc' := 45) (fun _ _ k => x_iload_n dX10_readsProgram_44 rfl rfl k) ?_
      refine Xi.up (pc' := 46) (L' := [some (zr 2230), some (zi l1), some (zi x6), some (zi x6)]) (fun _ _ k => x_istore_n dX10_readsProgram_45 rfl (by decide) rfl k) ?_
      refine Xi.up (pc' := 7) (fun _ _ k => x_goto dX10_readsProgram_46 rfl k) ?_
      exact Xi.up (fun _ _ k => x_less (L' := [some (zr 2230), some (zi l1), some (zi x6), none]) (⟨rfl, ⟨rfl, ⟨rfl, trivial⟩⟩⟩) k) h
set_option maxHeartbeats 4000000 in
set_option maxRecDepth 20000 in
theorem B10_readsStep {d : Nat} {K M : ZMem} {Q : Int → ZMem → Prop}  (hK : KW K M) (h0 : ModelAt K 2230) (h : (((mI M 2230 3) < 0 → (((mI M 2230 5) ≠ 40 → ((inR ((mI M 2230 5) + 1)) ∧ Ci d q10_peek [zr 2230] (sI M 2230 5 ((mI M 2230 5) + 1)) (fun x4 M3 => KW K M3 ∧ Ci d q10_isName [zr 2230] M3 (fun x8 M7 => KW K M7 ∧ ((x8 = 0 → ((49 ≤ x4 ∧ x4 ≤ 57 → ((inR ((mI M7 2230 2) + 1)) ∧ Ci d q10_byteAt [zr 2230, zi ((mI M7 2230 2) + 1)] M7 (fun x13 M12 => KW K M12 ∧ ((x13 ≠ 42 → ((x4 = 33 → ((inR ((mI M12 2230 2) + 1)) ∧ Ci d q10_writes [zr 2230, zi 15, zi 0, zi 0, zi 0] (sI M12 2230 2 ((mI M12 2230 2) + 1)) (fun x19 M18 => KW K M18 ∧ Q x19 M18))) ∧ (x4 = 40 → (Ci d q10_readsWays [zr 2230] M12 (fun x23 M22 => KW K M22 ∧ Q x23 M22))) ∧ (x4 = 91 → (Ci d q10_readsBrackets [zr 2230, zi 91, zi 93] M12 (fun x27 M26 => KW K M26 ∧ Ci d q10_writes [zr 2230, zi 13, zi x27, zi 0, zi 0] M26 (fun x31 M30 => KW K M30 ∧ Q x31 M30)))) ∧ (x4 = 126 → ((inR ((mI M12 2230 2) + 1)) ∧ Ci d q10_readsBrackets [zr 2230, zi 91, zi 93] (sI M12 2230 2 ((mI M12 2230 2) + 1)) (fun x37 M36 => KW K M36 ∧ Ci d q10_writes [zr 2230, zi 14, zi x37, zi 0, zi 0] M36 (fun x41 M40 => KW K M40 ∧ Q x41 M40)))) ∧ (x4 ≠ 33 ∧ x4 ≠ 40 ∧ x4 ≠ 91 ∧ x4 ≠ 126 → (Ci d q10_readsTest [zr 2230] M12 (fun x45 M44 => KW K M44 ∧ Q x45 M44))))) ∧ (¬ (x13 ≠ 42) → ((inR ((mI M12 2230 2) + 2)) ∧ Ci d q10_byteAt [zr 2230, zi ((mI M12 2230 2) + 2)] M12 (fun x50 M49 => KW K M49 ∧ ((x50 ≠ 40 → ((x4 = 33 → ((inR ((mI M49 2230 2) + 1)) ∧ Ci d q10_writes [zr 2230, zi 15, zi 0, zi 0, zi 0] (sI M49 2230 2 ((mI M49 2230 2) + 1)) (fun x56 M55 => KW K M55 ∧ Q x56 M55))) ∧ (x4 = 40 → (Ci d q10_readsWays [zr 2230] M49 (fun x60 M59 => KW K M59 ∧ Q x60 M59))) ∧ (x4 = 91 → (Ci d q10_readsBrackets [zr 2230, zi 91, zi 93] M49 (fun x64 M63 => KW K M63 ∧ Ci d q10_writes [zr 2230, zi 13, zi x64, zi 0, zi 0] M63 (fun x68 M67 => KW K M67 ∧ Q x68 M67)))) ∧ (x4 = 126 → ((inR ((mI M49 2230 2) + 1)) ∧ Ci d q10_readsBrackets [zr 2230, zi 91, zi 93] (sI M49 2230 2 ((mI M49 2230 2) + 1)) (fun x74 M73 => KW K M73 ∧ Ci d q10_writes [zr 2230, zi 14, zi x74, zi 0, zi 0] M73 (fun x78 M77 => KW K M77 ∧ Q x78 M77)))) ∧ (x4 ≠ 33 ∧ x4 ≠ 40 ∧ x4 ≠ 91 ∧ x4 ≠ 126 → (Ci d q10_readsTest [zr 2230] M49 (fun x82 M81 => KW K M81 ∧ Q x82 M81))))) ∧ (¬ (x50 ≠ 40) → ((inR ((mI M49 2230 2) + 2)) ∧ Ci d q10_readsBrackets [zr 2230, zi 40, zi 41] (sI M49 2230 2 ((mI M49 2230 2) + 2)) (fun x88 M87 => KW K M87 ∧ (inR (x4 - 48)) ∧ Ci d q10_writes [zr 2230, zi 16, zi (x4 - 48), zi x88, zi 0] M87 (fun x93 M92 => KW K M92 ∧ Q x93 M92)))))))))))) ∧ (¬ (49 ≤ x4 ∧ x4 ≤ 57) → ((x4 = 33 → ((inR ((mI M7 2230 2) + 1)) ∧ Ci d q10_writes [zr 2230, zi 15, zi 0, zi 0, zi 0] (sI M7 2230 2 ((mI M7 2230 2) + 1)) (fun x99 M98 => KW K M98 ∧ Q x99 M98))) ∧ (x4 = 40 → (Ci d q10_readsWays [zr 2230] M7 (fun x103 M102 => KW K M102 ∧ Q x103 M102))) ∧ (x4 = 91 → (Ci d q10_readsBrackets [zr 2230, zi 91, zi 93] M7 (fun x107 M106 => KW K M106 ∧ Ci d q10_writes [zr 2230, zi 13, zi x107, zi 0, zi 0] M106 (fun x111 M110 => KW K M110 ∧ Q x111 M110)))) ∧ (x4 = 126 → ((inR ((mI M7 2230 2) + 1)) ∧ Ci d q10_readsBrackets [zr 2230, zi 91, zi 93] (sI M7 2230 2 ((mI M7 2230 2) + 1)) (fun x117 M116 => KW K M116 ∧ Ci d q10_writes [zr 2230, zi 14, zi x117, zi 0, zi 0] M116 (fun x121 M120 => KW K M120 ∧ Q x121 M120)))) ∧ (x4 ≠ 33 ∧ x4 ≠ 40 ∧ x4 ≠ 91 ∧ x4 ≠ 126 → (Ci d q10_readsTest [zr 2230] M7 (fun x125 M124 => KW K M124 ∧ Q x125 M124))))))) ∧ (¬ (x8 = 0) → ((inR ((mI M7 2230 2) + 1)) ∧ Ci d q10_byteAt [zr 2230, zi ((mI M7 2230 2) + 1)] M7 (fun x130 M129 => KW K M129 ∧ ((x130 = 58 → ((inR ((mI M129 2230 2) + 2)) ∧ (inR ((mI (sI M129 2230 2 ((mI M129 2230 2) + 2)) 2230 2) - 1)) ∧ Ci d q10_byteAt [zr 2230, zi ((mI (sI M129 2230 2 ((mI M129 2230 2) + 2)) 2230 2) - 1)] (sI M129 2230 2 ((mI M129 2230 2) + 2)) (fun x137 M136 => KW K M136 ∧ ((x137 ≠ 58 → ((inR (x4 - 97)) ∧ Ci d q10_readsChoose [zr 2230, zi (x4 - 97)] M136 (fun x142 M141 => KW K M141 ∧ Q x142 M141))) ∧ (¬ (x137 ≠ 58) → ((inR (x4 - 97)) ∧ Ci d q10_readsSum [zr 2230] M136 (fun x147 M146 => KW K M146 ∧ Ci d q10_writes [zr 2230, zi 7, zi (x4 - 97), zi x147, zi 0] M146 (fun x151 M150 => KW K M150 ∧ Q x151 M150)))))))) ∧ (¬ (x130 = 58) → ((inR ((mI M129 2230 2) + 1)) ∧ Ci d q10_byteAt [zr 2230, zi ((mI M129 2230 2) + 1)] M129 (fun x156 M155 => KW K M155 ∧ ((x156 ≠ 63 → ((49 ≤ x4 ∧ x4 ≤ 57 → ((inR ((mI M155 2230 2) + 1)) ∧ Ci d q10_byteAt [zr 2230, zi ((mI M155 2230 2) + 1)] M155 (fun x161 M160 => KW K M160 ∧ ((x161 ≠ 42 → ((x4 = 33 → ((inR ((mI M160 2230 2) + 1)) ∧ Ci d q10_writes [zr 2230, zi 15, zi 0, zi 0, zi 0] (sI M160 2230 2 ((mI M160 2230 2) + 1)) (fun x167 M166 => KW K M166 ∧ Q x167 M166))) ∧ (x4 = 40 → (Ci d q10_readsWays [zr 2230] M160 (fun x171 M170 => KW K M170 ∧ Q x171 M170))) ∧ (x4 = 91 → (Ci d q10_readsBrackets [zr 2230, zi 91, zi 93] M160 (fun x175 M174 => KW K M174 ∧ Ci d q10_writes [zr 2230, zi 13, zi x175, zi 0, zi 0] M174 (fun x179 M178 => KW K M178 ∧ Q x179 M178)))) ∧ (x4 = 126 → ((inR ((mI M160 2230 2) + 1)) ∧ Ci d q10_readsBrackets [zr 2230, zi 91, zi 93] (sI M160 2230 2 ((mI M160 2230 2) + 1)) (fun x185 M184 => KW K M184 ∧ Ci d q10_writes [zr 2230, zi 14, zi x185, zi 0, zi 0] M184 (fun x189 M188 => KW K M188 ∧ Q x189 M188)))) ∧ (x4 ≠ 33 ∧ x4 ≠ 40 ∧ x4 ≠ 91 ∧ x4 ≠ 126 → (Ci d q10_readsTest [zr 2230] M160 (fun x193 M192 => KW K M192 ∧ Q x193 M192))))) ∧ (¬ (x161 ≠ 42) → ((inR ((mI M160 2230 2) + 2)) ∧ Ci d q10_byteAt [zr 2230, zi ((mI M160 2230 2) + 2)] M160 (fun x198 M197 => KW K M197 ∧ ((x198 ≠ 40 → ((x4 = 33 → ((inR ((mI M197 2230 2) + 1)) ∧ Ci d q10_writes [zr 2230, zi 15, zi 0, zi 0, zi 0] (sI M197 2230 2 ((mI M197 2230 2) + 1)) (fun x204 M203 => KW K M203 ∧ Q x204 M203))) ∧ (x4 = 40 → (Ci d q10_readsWays [zr 2230] M197 (fun x208 M207 => KW K M207 ∧ Q x208 M207))) ∧ (x4 = 91 → (Ci d q10_readsBrackets [zr 2230, zi 91, zi 93] M197 (fun x212 M211 => KW K M211 ∧ Ci d q10_writes [zr 2230, zi 13, zi x212, zi 0, zi 0] M211 (fun x216 M215 => KW K M215 ∧ Q x216 M215)))) ∧ (x4 = 126 → ((inR ((mI M197 2230 2) + 1)) ∧ Ci d q10_readsBrackets [zr 2230, zi 91, zi 93] (sI M197 2230 2 ((mI M197 2230 2) + 1)) (fun x222 M221 => KW K M221 ∧ Ci d q10_writes [zr 2230, zi 14, zi x222, zi 0, zi 0] M221 (fun x226 M225 => KW K M225 ∧ Q x226 M225)))) ∧ (x4 ≠ 33 ∧ x4 ≠ 40 ∧ x4 ≠ 91 ∧ x4 ≠ 126 → (Ci d q10_readsTest [zr 2230] M197 (fun x230 M229 => KW K M229 ∧ Q x230 M229))))) ∧ (¬ (x198 ≠ 40) → ((inR ((mI M197 2230 2) + 2)) ∧ Ci d q10_readsBrackets [zr 2230, zi 40, zi 41] (sI M197 2230 2 ((mI M197 2230 2) + 2)) (fun x236 M235 => KW K M235 ∧ (inR (x4 - 48)) ∧ Ci d q10_writes [zr 2230, zi 16, zi (x4 - 48), zi x236, zi 0] M235 (fun x241 M240 => KW K M240 ∧ Q x241 M240)))))))))))) ∧ (¬ (49 ≤ x4 ∧ x4 ≤ 57) → ((x4 = 33 → ((inR ((mI M155 2230 2) + 1)) ∧ Ci d q10_writes [zr 2230, zi 15, zi 0, zi 0, zi 0] (sI M155 2230 2 ((mI M155 2230 2) + 1)) (fun x247 M246 => KW K M246 ∧ Q x247 M246))) ∧ (x4 = 40 → (Ci d q10_readsWays [zr 2230] M155 (fun x251 M250 => KW K M250 ∧ Q x251 M250))) ∧ (x4 = 91 → (Ci d q10_readsBrackets [zr 2230, zi 91, zi 93] M155 (fun x255 M254 => KW K M254 ∧ Ci d q10_writes [zr 2230, zi 13, zi x255, zi 0, zi 0] M254 (fun x259 M258 => KW K M258 ∧ Q x259 M258)))) ∧ (x4 = 126 → ((inR ((mI M155 2230 2) + 1)) ∧ Ci d q10_readsBrackets [zr 2230, zi 91, zi 93] (sI M155 2230 2 ((mI M155 2230 2) + 1)) (fun x265 M264 => KW K M264 ∧ Ci d q10_writes [zr 2230, zi 14, zi x265, zi 0, zi 0] M264 (fun x269 M268 => KW K M268 ∧ Q x269 M268)))) ∧ (x4 ≠ 33 ∧ x4 ≠ 40 ∧ x4 ≠ 91 ∧ x4 ≠ 126 → (Ci d q10_readsTest [zr 2230] M155 (fun x273 M272 => KW K M272 ∧ Q x273 M272))))))) ∧ (¬ (x156 ≠ 63) → ((inR ((mI M155 2230 2) + 2)) ∧ (inR ((mI (sI M155 2230 2 ((mI M155 2230 2) + 2)) 2230 2) - 1)) ∧ Ci d q10_byteAt [zr 2230, zi ((mI (sI M155 2230 2 ((mI M155 2230 2) + 2)) 2230 2) - 1)] (sI M155 2230 2 ((mI M155 2230 2) + 2)) (fun x280 M279 => KW K M279 ∧ ((x280 ≠ 58 → ((inR (x4 - 97)) ∧ Ci d q10_readsChoose [zr 2230, zi (x4 - 97)] M279 (fun x285 M284 => KW K M284 ∧ Q x285 M284))) ∧ (¬ (x280 ≠ 58) → ((inR (x4 - 97)) ∧ Ci d q10_readsSum [zr 2230] M279 (fun x290 M289 => KW K M289 ∧ Ci d q10_writes [zr 2230, zi 7, zi (x4 - 97), zi x290, zi 0] M289 (fun x294 M293 => KW K M293 ∧ Q x294 M293))))))))))))))))))))) ∧ (¬ ((mI M 2230 5) ≠ 40) → (Cv d q10_wrong [zr 2230, zi (mI M 2230 2)] M (fun M297 => KW K M297 ∧ Q 0 M297))))) ∧ (¬ ((mI M 2230 3) < 0) → (Q 0 M)))) : Ci (d + 1) q10_readsStep [zr 2230] M Q := by
  refine Ci.of rfl rfl (Nat.le_of_ble_eq_true rfl) (fun w hw x e => by subst e; simp at hw) (L := [some (zr 2230), none, none]) rfl ?_
  refine Xi.up (pc' := 1) (fun _ _ k => x_aload_n dX10_readsStep_0 rfl rfl k) ?_
  refine Xi.up (pc' := 4) (fun _ _ k => x_getIK hK lf10_58 rfl dX10_readsStep_1 h0.1 k) ?_
  refine Xi.br (tgt := 9) (pc' := 7) ((mI M 2230 3) < 0) (fun _ _ kt kf => x_if_lt dX10_readsStep_4 rfl kt kf) (fun c => ?_) (fun c => ?_)
  · have h := h.1 c
    refine Xi.up (pc' := 10) (fun _ _ k => x_aload_n dX10_readsStep_9 rfl rfl k) ?_
    refine Xi.up (pc' := 13) (fun _ _ k => x_getIK hK lf10_104 rfl dX10_readsStep_10 h0.1 k) ?_
    refine Xi.up (pc' := 15) (fun _ _ k => x_bipush dX10_readsStep_13 (show inR 40 from ⟨by decide, by decide⟩) (by decide) k) ?_
    refine Xi.br (tgt := 28) (pc' := 18) ((mI M 2230 5) ≠ 40) (fun _ _ kt kf => x_icmp_ne dX10_readsStep_15 rfl kt kf) (fun c => ?_) (fun c => ?_)
    · have h := h.1 c
      refine Xi.up (pc' := 29) (fun _ _ k => x_aload_n dX10_readsStep_28 rfl rfl k) ?_
      refine Xi.up (pc' := 30) (fun _ _ k => x_dupR dX10_readsStep_29 k) ?_
      refine Xi.up (pc' := 33) (fun _ _ k => x_getIK hK lf10_104 rfl dX10_readsStep_30 h0.1 k) ?_
      refine Xi.up (pc' := 34) (fun _ _ k => x_iconst dX10_readsStep_33 (show inR 1 from ⟨by decide, by decide⟩) k) ?_
      obtain ⟨g1, h⟩ := h
      refine Xi.up (pc' := 35) (fun _ _ k => x_iadd dX10_readsStep_34 g1 k) ?_
      refine Xi.up (pc' := 38) (fun _ _ k => x_putIK hK lf10_104 rfl rfl (Or.inl rfl) dX10_readsStep_35 h0.1 k) ?_
      have hK2 := KW.sI hK 2230 5 ((mI M 2230 5) + 1)
      refine Xi.up (pc' := 39) (fun _ _ k => x_aload_n dX10_readsStep_38 rfl rfl k) ?_
      obtain ⟨x4, M3, hc6, hK5, h⟩ := h
      refine Xi.up (pc' := 42) (st' := [zi x4]) (fun _ _ k => x_callVK (ci := 10) (as := []) (st := []) hK2 k10_peek lm10_61 dX10_readsStep_39 rfl (by decide) (zs8 rfl) h0.1 ⟨_, _, rfl⟩ hc6 k) ?_
      refine Xi.up (pc' := 43) (L' := [some (zr 2230), some (zi x4), none]) (fun _ _ k => x_istore_n dX10_readsStep_42 rfl (by decide) rfl k) ?_
      refine Xi.up (pc' := 44) (fun _ _ k => x_aload_n dX10_readsStep_43 rfl rfl k) ?_
      obtain ⟨x8, M7, hc10, hK9, h⟩ := h
      refine Xi.up (pc' := 47) (st' := [zi x8]) (fun _ _ k => x_callVK (ci := 10) (as := []) (st := []) hK5 k10_isName lm10_83 dX10_readsStep_44 rfl (by decide) (zs8 rfl) h0.1 ⟨_, _, rfl⟩ hc10 k) ?_
      refine Xi.br (tgt := 132) (pc' := 50) (x8 = 0) (fun _ _ kt kf => x_if_eq dX10_readsStep_47 rfl kt kf) (fun c => ?_) (fun c => ?_)
      · have h := h.1 c
        refine Xi.up (pc' := 133) (fun _ _ k => x_iload_n dX10_readsStep_132 rfl rfl k) ?_
        refine Xi.up (pc' := 134) (fun _ _ k => x_i2l dX10_readsStep_133 k) ?_
        refine Xi.up (pc' := 137) (fun _ _ k => x_ldc2 ll10_113 dX10_readsStep_134 (show inL 49 from ⟨by decide, by decide⟩) rfl k) ?_
        refine Xi.up (pc' := 140) (fun _ _ k => x_ldc2 ll10_96 dX10_readsStep_137 (show inL 57 from ⟨by decide, by decide⟩) rfl k) ?_
        by_cases c : 49 ≤ x4 ∧ x4 ≤ 57
        · have h := h.1 c
          refine Xi.up (pc' := 143) (st' := [zi 1]) (fun _ _ k => x_in1 (st := []) lm10_43 dX10_readsStep_140 (zs8 rfl) c k) ?_
          refine Xi.br (tgt := 208) (pc' := 146) ((1 : Int) = 0) (fun _ _ kt kf => x_if_eq dX10_readsStep_143 rfl kt kf) (fun c => absurd c (by decide)) (fun _ => ?_)
          refine Xi.up (pc' := 147) (fun _ _ k => x_aload_n dX10_readsStep_146 rfl rfl k) ?_
          refine Xi.up (pc' := 148) (fun _ _ k => x_aload_n dX10_readsStep_147 rfl rfl k) ?_
          refine Xi.up (pc' := 151) (fun _ _ k => x_getIK hK9 lf10_51 rfl dX10_readsStep_148 h0.1 k) ?_
          refine Xi.up (pc' := 152) (fun _ _ k => x_iconst dX10_readsStep_151 (show inR 1 from ⟨by decide, by decide⟩) k) ?_
          obtain ⟨g11, h⟩ := h
          refine Xi.up (pc' := 153) (fun _ _ k => x_iadd dX10_readsStep_152 g11 k) ?_
          obtain ⟨x13, M12, hc15, hK14, h⟩ := h
          refine Xi.up (pc' := 156) (st' := [zi x13]) (fun _ _ k => x_callVK (ci := 10) (as := [zi ((mI M7 2230 2) + 1)]) (st := []) hK9 k10_byteAt lm10_54 dX10_readsStep_153 rfl (by decide) (zs8 rfl) h0.1 ⟨_, _, rfl⟩ hc15 k) ?_
          refine Xi.up (pc' := 158) (fun _ _ k => x_bipush dX10_readsStep_156 (show inR 42 from ⟨by decide, by decide⟩) (by decide) k) ?_
          refine Xi.br (tgt := 208) (pc' := 161) (x13 ≠ 42) (fun _ _ kt kf => x_icmp_ne dX10_readsStep_158 rfl kt kf) (fun c => ?_) (fun c => ?_)
          · have h := h.1 c
            refine Xi.up (pc' := 209) (fun _ _ k => x_iload_n dX10_readsStep_208 rfl rfl k) ?_
            by_cases c0 : x4 = 33
            · refine Xi.up (pc' := 301) (fun _ _ k => x_lookup dX10_readsStep_209 rfl (off := 92) (by rw [c0]; rfl) rfl k) ?_
              have h := h.1 c0
              refine Xi.up (pc' := 302) (fun _ _ k => x_aload_n dX10_readsStep_301 rfl rfl k) ?_
              refine Xi.up (pc' := 303) (fun _ _ k => x_dupR dX10_readsStep_302 k) ?_
              refine Xi.up (pc' := 306) (fun _ _ k => x_getIK hK14 lf10_51 rfl dX10_readsStep_303 h0.1 k) ?_
              refine Xi.up (pc' := 307) (fun _ _ k => x_iconst dX10_readsStep_306 (show inR 1 from ⟨by decide, by decide⟩) k) ?_
              obtain ⟨g16, h⟩ := h
              refine Xi.up (pc' := 308) (fun _ _ k => x_iadd dX10_readsStep_307 g16 k) ?_
              refine Xi.up (pc' := 311) (fun _ _ k => x_putIK hK14 lf10_51 rfl rfl (Or.inl rfl) dX10_readsStep_308 h0.1 k) ?_
              have hK17 := KW.sI hK14 2230 2 ((mI M12 2230 2) + 1)
              refine Xi.up (pc' := 312) (fun _ _ k => x_aload_n dX10_readsStep_311 rfl rfl k) ?_
              refine Xi.up (pc' := 314) (fun _ _ k => x_bipush dX10_readsStep_312 (show inR 15 from ⟨by decide, by decide⟩) (by decide) k) ?_
              refine Xi.up (pc' := 315) (fun _ _ k => x_iconst dX10_readsStep_314 (show inR 0 from ⟨by decide, by decide⟩) k) ?_
              refine Xi.up (pc' := 316) (fun _ _ k => x_iconst dX10_readsStep_315 (show inR 0 from ⟨by decide, by decide⟩) k) ?_
              refine Xi.up (pc' := 317) (fun _ _ k => x_iconst dX10_readsStep_316 (show inR 0 from ⟨by decide, by decide⟩) k) ?_
              obtain ⟨x19, M18, hc21, hK20, h⟩ := h
              refine Xi.up (pc' := 320) (st' := [zi x19]) (fun _ _ k => x_callVK (ci := 10) (as := [zi 15, zi 0, zi 0, zi 0]) (st := []) hK17 k10_writes lm10_87 dX10_readsStep_317 rfl (by decide) (zs8 rfl) h0.1 ⟨_, _, rfl⟩ hc21 k) ?_
              exact Xi.ret ⟨dX10_readsStep_320, Or.inl rfl⟩ h
            · skip
              by_cases c1 : x4 = 40
              · refine Xi.up (pc' := 252) (fun _ _ k => x_lookup dX10_readsStep_209 rfl (off := 43) (by rw [c1]; rfl) rfl k) ?_
                have h := h.2.1 c1
                refine Xi.up (pc' := 253) (fun _ _ k => x_aload_n dX10_readsStep_252 rfl rfl k) ?_
                obtain ⟨x23, M22, hc25, hK24, h⟩ := h
                refine Xi.up (pc' := 256) (st' := [zi x23]) (fun _ _ k => x_callVK (ci := 10) (as := []) (st := []) hK14 k10_readsWays lm10_119 dX10_readsStep_253 rfl (by decide) (zs8 rfl) h0.1 ⟨_, _, rfl⟩ hc25 k) ?_
                exact Xi.ret ⟨dX10_readsStep_256, Or.inl rfl⟩ h
              · skip
                by_cases c2 : x4 = 91
                · refine Xi.up (pc' := 257) (fun _ _ k => x_lookup dX10_readsStep_209 rfl (off := 48) (by rw [c2]; rfl) rfl k) ?_
                  have h := h.2.2.1 c2
                  refine Xi.up (pc' := 258) (fun _ _ k => x_aload_n dX10_readsStep_257 rfl rfl k) ?_
                  refine Xi.up (pc' := 260) (fun _ _ k => x_bipush dX10_readsStep_258 (show inR 13 from ⟨by decide, by decide⟩) (by decide) k) ?_
                  refine Xi.up (pc' := 261) (fun _ _ k => x_aload_n dX10_readsStep_260 rfl rfl k) ?_
                  refine Xi.up (pc' := 263) (fun _ _ k => x_bipush dX10_readsStep_261 (show inR 91 from ⟨by decide, by decide⟩) (by decide) k) ?_
                  refine Xi.up (pc' := 265) (fun _ _ k => x_bipush dX10_readsStep_263 (show inR 93 from ⟨by decide, by decide⟩) (by decide) k) ?_
                  obtain ⟨x27, M26, hc29, hK28, h⟩ := h
                  refine Xi.up (pc' := 268) (st' := [zi x27, zi 13, zr 2230]) (fun _ _ k => x_callVK (ci := 10) (as := [zi 91, zi 93]) (st := [zi 13, zr 2230]) hK14 k10_readsBrackets lm10_115 dX10_readsStep_265 rfl (by decide) (zs8 rfl) h0.1 ⟨_, _, rfl⟩ hc29 k) ?_
                  refine Xi.up (pc' := 269) (fun _ _ k => x_iconst dX10_readsStep_268 (show inR 0 from ⟨by decide, by decide⟩) k) ?_
                  refine Xi.up (pc' := 270) (fun _ _ k => x_iconst dX10_readsStep_269 (show inR 0 from ⟨by decide, by decide⟩) k) ?_
                  obtain ⟨x31, M30, hc33, hK32, h⟩ := h
                  refine Xi.up (pc' := 273) (st' := [zi x31]) (fun _ _ k => x_callVK (ci := 10) (as := [zi 13, zi x27, zi 0, zi 0]) (st := []) hK28 k10_writes lm10_87 dX10_readsStep_270 rfl (by decide) (zs8 rfl) h0.1 ⟨_, _, rfl⟩ hc33 k) ?_
                  exact Xi.ret ⟨dX10_readsStep_273, Or.inl rfl⟩ h
                · skip
                  by_cases c3 : x4 = 126
                  · refine Xi.up (pc' := 274) (fun _ _ k => x_lookup dX10_readsStep_209 rfl (off := 65) (by rw [c3]; rfl) rfl k) ?_
                    have h := h.2.2.2.1 c3
                    refine Xi.up (pc' := 275) (fun _ _ k => x_aload_n dX10_readsStep_274 rfl rfl k) ?_
                    refine Xi.up (pc' := 276) (fun _ _ k => x_dupR dX10_readsStep_275 k) ?_
                    refine Xi.up (pc' := 279) (fun _ _ k => x_getIK hK14 lf10_51 rfl dX10_readsStep_276 h0.1 k) ?_
                    refine Xi.up (pc' := 280) (fun _ _ k => x_iconst dX10_readsStep_279 (show inR 1 from ⟨by decide, by decide⟩) k) ?_
                    obtain ⟨g34, h⟩ := h
                    refine Xi.up (pc' := 281) (fun _ _ k => x_iadd dX10_readsStep_280 g34 k) ?_
                    refine Xi.up (pc' := 284) (fun _ _ k => x_putIK hK14 lf10_51 rfl rfl (Or.inl rfl) dX10_readsStep_281 h0.1 k) ?_
                    have hK35 := KW.sI hK14 2230 2 ((mI M12 2230 2) + 1)
                    refine Xi.up (pc' := 285) (fun _ _ k => x_aload_n dX10_readsStep_284 rfl rfl k) ?_
                    refine Xi.up (pc' := 287) (fun _ _ k => x_bipush dX10_readsStep_285 (show inR 14 from ⟨by decide, by decide⟩) (by decide) k) ?_
                    refine Xi.up (pc' := 288) (fun _ _ k => x_aload_n dX10_readsStep_287 rfl rfl k) ?_
                    refine Xi.up (pc' := 290) (fun _ _ k => x_bipush dX10_readsStep_288 (show inR 91 from ⟨by decide, by decide⟩) (by decide) k) ?_
                    refine Xi.up (pc' := 292) (fun _ _ k => x_bipush dX10_readsStep_290 (show inR 93 from ⟨by decide, by decide⟩) (by decide) k) ?_
                    obtain ⟨x37, M36, hc39, hK38, h⟩ := h
                    refine Xi.up (pc' := 295) (st' := [zi x37, zi 14, zr 2230]) (fun _ _ k => x_callVK (ci := 10) (as := [zi 91, zi 93]) (st := [zi 14, zr 2230]) hK35 k10_readsBrackets lm10_115 dX10_readsStep_292 rfl (by decide) (zs8 rfl) h0.1 ⟨_, _, rfl⟩ hc39 k) ?_
                    refine Xi.up (pc' := 296) (fun _ _ k => x_iconst dX10_readsStep_295 (show inR 0 from ⟨by decide, by decide⟩) k) ?_
                    refine Xi.up (pc' := 297) (fun _ _ k => x_iconst dX10_readsStep_296 (show inR 0 from ⟨by decide, by decide⟩) k) ?_
                    obtain ⟨x41, M40, hc43, hK42, h⟩ := h
                    refine Xi.up (pc' := 300) (st' := [zi x41]) (fun _ _ k => x_callVK (ci := 10) (as := [zi 14, zi x37, zi 0, zi 0]) (st := []) hK38 k10_writes lm10_87 dX10_readsStep_297 rfl (by decide) (zs8 rfl) h0.1 ⟨_, _, rfl⟩ hc43 k) ?_
                    exact Xi.ret ⟨dX10_readsStep_300, Or.inl rfl⟩ h
                  · skip
                    refine Xi.up (pc' := 321) (fun _ _ k => x_lookup dX10_readsStep_209 rfl (off := 112) (by simp [Op.lookupswitch.offset_cons, Op.lookupswitch.offset_nil, Ne.symm c0, c0, Ne.symm c1, c1, Ne.symm c2, c2, Ne.symm c3, c3]) rfl k) ?_
                    have h := h.2.2.2.2 ⟨c0, c1, c2, c3⟩
                    refine Xi.up (pc' := 322) (fun _ _ k => x_aload_n dX10_readsStep_321 rfl rfl k) ?_
                    obtain ⟨x45, M44, hc47, hK46, h⟩ := h
                    refine Xi.up (pc' := 325) (st' := [zi x45]) (fun _ _ k => x_callVK (ci := 10) (as := []) (st := []) hK14 k10_readsTest lm10_122 dX10_readsStep_322 rfl (by decide) (zs8 rfl) h0.1 ⟨_, _, rfl⟩ hc47 k) ?_
                    exact Xi.ret ⟨dX10_readsStep_325, Or.inl rfl⟩ h
          · have h := h.2 c
            refine Xi.up (pc' := 162) (fun _ _ k => x_aload_n dX10_readsStep_161 rfl rfl k) ?_
            refine Xi.up (pc' := 163) (fun _ _ k => x_aload_n dX10_readsStep_162 rfl rfl k) ?_
            refine Xi.up (pc' := 166) (fun _ _ k => x_getIK hK14 lf10_51 rfl dX10_readsStep_163 h0.1 k) ?_
            refine Xi.up (pc' := 167) (fun _ _ k => x_iconst dX10_readsStep_166 (show inR 2 from ⟨by decide, by decide⟩) k) ?_
            obtain ⟨g48, h⟩ := h
            refine Xi.up (pc' := 168) (fun _ _ k => x_iadd dX10_readsStep_167 g48 k) ?_
            obtain ⟨x50, M49, hc52, hK51, h⟩ := h
            refine Xi.up (pc' := 171) (st' := [zi x50]) (fun _ _ k => x_callVK (ci := 10) (as := [zi ((mI M12 2230 2) + 2)]) (st := []) hK14 k10_byteAt lm10_54 dX10_readsStep_168 rfl (by decide) (zs8 rfl) h0.1 ⟨_, _, rfl⟩ hc52 k) ?_
            refine Xi.up (pc' := 173) (fun _ _ k => x_bipush dX10_readsStep_171 (show inR 40 from ⟨by decide, by decide⟩) (by decide) k) ?_
            refine Xi.br (tgt := 208) (pc' := 176) (x50 ≠ 40) (fun _ _ kt kf => x_icmp_ne dX10_readsStep_173 rfl kt kf) (fun c => ?_) (fun c => ?_)
            · have h := h.1 c
              refine Xi.up (pc' := 209) (fun _ _ k => x_iload_n dX10_readsStep_208 rfl rfl k) ?_
              by_cases c0 : x4 = 33
              · refine Xi.up (pc' := 301) (fun _ _ k => x_lookup dX10_readsStep_209 rfl (off := 92) (by rw [c0]; rfl) rfl k) ?_
                have h := h.1 c0
                refine Xi.up (pc' := 302) (fun _ _ k => x_aload_n dX10_readsStep_301 rfl rfl k) ?_
                refine Xi.up (pc' := 303) (fun _ _ k => x_dupR dX10_readsStep_302 k) ?_
                refine Xi.up (pc' := 306) (fun _ _ k => x_getIK hK51 lf10_51 rfl dX10_readsStep_303 h0.1 k) ?_
                refine Xi.up (pc' := 307) (fun _ _ k => x_iconst dX10_readsStep_306 (show inR 1 from ⟨by decide, by decide⟩) k) ?_
                obtain ⟨g53, h⟩ := h
                refine Xi.up (pc' := 308) (fun _ _ k => x_iadd dX10_readsStep_307 g53 k) ?_
                refine Xi.up (pc' := 311) (fun _ _ k => x_putIK hK51 lf10_51 rfl rfl (Or.inl rfl) dX10_readsStep_308 h0.1 k) ?_
                have hK54 := KW.sI hK51 2230 2 ((mI M49 2230 2) + 1)
                refine Xi.up (pc' := 312) (fun _ _ k => x_aload_n dX10_readsStep_311 rfl rfl k) ?_
                refine Xi.up (pc' := 314) (fun _ _ k => x_bipush dX10_readsStep_312 (show inR 15 from ⟨by decide, by decide⟩) (by decide) k) ?_
                refine Xi.up (pc' := 315) (fun _ _ k => x_iconst dX10_readsStep_314 (show inR 0 from ⟨by decide, by decide⟩) k) ?_
                refine Xi.up (pc' := 316) (fun _ _ k => x_iconst dX10_readsStep_315 (show inR 0 from ⟨by decide, by decide⟩) k) ?_
                refine Xi.up (pc' := 317) (fun _ _ k => x_iconst dX10_readsStep_316 (show inR 0 from ⟨by decide, by decide⟩) k) ?_
                obtain ⟨x56, M55, hc58, hK57, h⟩ := h
                refine Xi.up (pc' := 320) (st' := [zi x56]) (fun _ _ k => x_callVK (ci := 10) (as := [zi 15, zi 0, zi 0, zi 0]) (st := []) hK54 k10_writes lm10_87 dX10_readsStep_317 rfl (by decide) (zs8 rfl) h0.1 ⟨_, _, rfl⟩ hc58 k) ?_
                exact Xi.ret ⟨dX10_readsStep_320, Or.inl rfl⟩ h
              · skip
                by_cases c1 : x4 = 40
                · refine Xi.up (pc' := 252) (fun _ _ k => x_lookup dX10_readsStep_209 rfl (off := 43) (by rw [c1]; rfl) rfl k) ?_
                  have h := h.2.1 c1
                  refine Xi.up (pc' := 253) (fun _ _ k => x_aload_n dX10_readsStep_252 rfl rfl k) ?_
                  obtain ⟨x60, M59, hc62, hK61, h⟩ := h
                  refine Xi.up (pc' := 256) (st' := [zi x60]) (fun _ _ k => x_callVK (ci := 10) (as := []) (st := []) hK51 k10_readsWays lm10_119 dX10_readsStep_253 rfl (by decide) (zs8 rfl) h0.1 ⟨_, _, rfl⟩ hc62 k) ?_
                  exact Xi.ret ⟨dX10_readsStep_256, Or.inl rfl⟩ h
                · skip
                  by_cases c2 : x4 = 91
                  · refine Xi.up (pc' := 257) (fun _ _ k => x_lookup dX10_readsStep_209 rfl (off := 48) (by rw [c2]; rfl) rfl k) ?_
                    have h := h.2.2.1 c2
                    refine Xi.up (pc' := 258) (fun _ _ k => x_aload_n dX10_readsStep_257 rfl rfl k) ?_
                    refine Xi.up (pc' := 260) (fun _ _ k => x_bipush dX10_readsStep_258 (show inR 13 from ⟨by decide, by decide⟩) (by decide) k) ?_
                    refine Xi.up (pc' := 261) (fun _ _ k => x_aload_n dX10_readsStep_260 rfl rfl k) ?_
                    refine Xi.up (pc' := 263) (fun _ _ k => x_bipush dX10_readsStep_261 (show inR 91 from ⟨by decide, by decide⟩) (by decide) k) ?_
                    refine Xi.up (pc' := 265) (fun _ _ k => x_bipush dX10_readsStep_263 (show inR 93 from ⟨by decide, by decide⟩) (by decide) k) ?_
                    obtain ⟨x64, M63, hc66, hK65, h⟩ := h
                    refine Xi.up (pc' := 268) (st' := [zi x64, zi 13, zr 2230]) (fun _ _ k => x_callVK (ci := 10) (as := [zi 91, zi 93]) (st := [zi 13, zr 2230]) hK51 k10_readsBrackets lm10_115 dX10_readsStep_265 rfl (by decide) (zs8 rfl) h0.1 ⟨_, _, rfl⟩ hc66 k) ?_
                    refine Xi.up (pc' := 269) (fun _ _ k => x_iconst dX10_readsStep_268 (show inR 0 from ⟨by decide, by decide⟩) k) ?_
                    refine Xi.up (pc' := 270) (fun _ _ k => x_iconst dX10_readsStep_269 (show inR 0 from ⟨by decide, by decide⟩) k) ?_
                    obtain ⟨x68, M67, hc70, hK69, h⟩ := h
                    refine Xi.up (pc' := 273) (st' := [zi x68]) (fun _ _ k => x_callVK (ci := 10) (as := [zi 13, zi x64, zi 0, zi 0]) (st := []) hK65 k10_writes lm10_87 dX10_readsStep_270 rfl (by decide) (zs8 rfl) h0.1 ⟨_, _, rfl⟩ hc70 k) ?_
                    exact Xi.ret ⟨dX10_readsStep_273, Or.inl rfl⟩ h
                  · skip
                    by_cases c3 : x4 = 126
                    · refine Xi.up (pc' := 274) (fun _ _ k => x_lookup dX10_readsStep_209 rfl (off := 65) (by rw [c3]; rfl) rfl k) ?_
                      have h := h.2.2.2.1 c3
                      refine Xi.up (pc' := 275) (fun _ _ k => x_aload_n dX10_readsStep_274 rfl rfl k) ?_
                      refine Xi.up (pc' := 276) (fun _ _ k => x_dupR dX10_readsStep_275 k) ?_
                      refine Xi.up (pc' := 279) (fun _ _ k => x_getIK hK51 lf10_51 rfl dX10_readsStep_276 h0.1 k) ?_
                      refine Xi.up (pc' := 280) (fun _ _ k => x_iconst dX10_readsStep_279 (show inR 1 from ⟨by decide, by decide⟩) k) ?_
                      obtain ⟨g71, h⟩ := h
                      refine Xi.up (pc' := 281) (fun _ _ k => x_iadd dX10_readsStep_280 g71 k) ?_
                      refine Xi.up (pc' := 284) (fun _ _ k => x_putIK hK51 lf10_51 rfl rfl (Or.inl rfl) dX10_readsStep_281 h0.1 k) ?_
                      have hK72 := KW.sI hK51 2230 2 ((mI M49 2230 2) + 1)
                      refine Xi.up (pc' := 285) (fun _ _ k => x_aload_n dX10_readsStep_284 rfl rfl k) ?_
                      refine Xi.up (pc' := 287) (fun _ _ k => x_bipush dX10_readsStep_285 (show inR 14 from ⟨by decide, by decide⟩) (by decide) k) ?_
                      refine Xi.up (pc' := 288) (fun _ _ k => x_aload_n dX10_readsStep_287 rfl rfl k) ?_
                      refine Xi.up (pc' := 290) (fun _ _ k => x_bipush dX10_readsStep_288 (show inR 91 from ⟨by decide, by decide⟩) (by decide) k) ?_
                      refine Xi.up (pc' := 292) (fun _ _ k => x_bipush dX10_readsStep_290 (show inR 93 from ⟨by decide, by decide⟩) (by decide) k) ?_
                      obtain ⟨x74, M73, hc76, hK75, h⟩ := h
                      refine Xi.up (pc' := 295) (st' := [zi x74, zi 14, zr 2230]) (fun _ _ k => x_callVK (ci := 10) (as := [zi 91, zi 93]) (st := [zi 14, zr 2230]) hK72 k10_readsBrackets lm10_115 dX10_readsStep_292 rfl (by decide) (zs8 rfl) h0.1 ⟨_, _, rfl⟩ hc76 k) ?_
                      refine Xi.up (pc' := 296) (fun _ _ k => x_iconst dX10_readsStep_295 (show inR 0 from ⟨by decide, by decide⟩) k) ?_
                      refine Xi.up (pc' := 297) (fun _ _ k => x_iconst dX10_readsStep_296 (show inR 0 from ⟨by decide, by decide⟩) k) ?_
                      obtain ⟨x78, M77, hc80, hK79, h⟩ := h
                      refine Xi.up (pc' := 300) (st' := [zi x78]) (fun _ _ k => x_callVK (ci := 10) (as := [zi 14, zi x74, zi 0, zi 0]) (st := []) hK75 k10_writes lm10_87 dX10_readsStep_297 rfl (by decide) (zs8 rfl) h0.1 ⟨_, _, rfl⟩ hc80 k) ?_
                      exact Xi.ret ⟨dX10_readsStep_300, Or.inl rfl⟩ h
                    · skip
                      refine Xi.up (pc' := 321) (fun _ _ k => x_lookup dX10_readsStep_209 rfl (off := 112) (by simp [Op.lookupswitch.offset_cons, Op.lookupswitch.offset_nil, Ne.symm c0, c0, Ne.symm c1, c1, Ne.symm c2, c2, Ne.symm c3, c3]) rfl k) ?_
                      have h := h.2.2.2.2 ⟨c0, c1, c2, c3⟩
                      refine Xi.up (pc' := 322) (fun _ _ k => x_aload_n dX10_readsStep_321 rfl rfl k) ?_
                      obtain ⟨x82, M81, hc84, hK83, h⟩ := h
                      refine Xi.up (pc' := 325) (st' := [zi x82]) (fun _ _ k => x_callVK (ci := 10) (as := []) (st := []) hK51 k10_readsTest lm10_122 dX10_readsStep_322 rfl (by decide) (zs8 rfl) h0.1 ⟨_, _, rfl⟩ hc84 k) ?_
                      exact Xi.ret ⟨dX10_readsStep_325, Or.inl rfl⟩ h
            · have h := h.2 c
              refine Xi.up (pc' := 177) (fun _ _ k => x_aload_n dX10_readsStep_176 rfl rfl k) ?_
              refine Xi.up (pc' := 178) (fun _ _ k => x_dupR dX10_readsStep_177 k) ?_
              refine Xi.up (pc' := 181) (fun _ _ k => x_getIK hK51 lf10_51 rfl dX10_readsStep_178 h0.1 k) ?_
              refine Xi.up (pc' := 182) (fun _ _ k => x_iconst dX10_readsStep_181 (show inR 2 from ⟨by decide, by decide⟩) k) ?_
              obtain ⟨g85, h⟩ := h
              refine Xi.up (pc' := 183) (fun _ _ k => x_iadd dX10_readsStep_182 g85 k) ?_
              refine Xi.up (pc' := 186) (fun _ _ k => x_putIK hK51 lf10_51 rfl rfl (Or.inl rfl) dX10_readsStep_183 h0.1 k) ?_
              have hK86 := KW.sI hK51 2230 2 ((mI M49 2230 2) + 2)
              refine Xi.up (pc' := 187) (fun _ _ k => x_aload_n dX10_readsStep_186 rfl rfl k) ?_
              refine Xi.up (pc' := 189) (fun _ _ k => x_bipush dX10_readsStep_187 (show inR 40 from ⟨by decide, by decide⟩) (by decide) k) ?_
              refine Xi.up (pc' := 191) (fun _ _ k => x_bipush dX10_readsStep_189 (show inR 41 from ⟨by decide, by decide⟩) (by decide) k) ?_
              obtain ⟨x88, M87, hc90, hK89, h⟩ := h
              refine Xi.up (pc' := 194) (st' := [zi x88]) (fun _ _ k => x_callVK (ci := 10) (as := [zi 40, zi 41]) (st := []) hK86 k10_readsBrackets lm10_115 dX10_readsStep_191 rfl (by decide) (zs8 rfl) h0.1 ⟨_, _, rfl⟩ hc90 k) ?_
              refine Xi.up (pc' := 195) (L' := [some (zr 2230), some (zi x4), some (zi x88)]) (fun _ _ k => x_istore_n dX10_readsStep_194 rfl (by decide) rfl k) ?_
              refine Xi.up (pc' := 196) (fun _ _ k => x_aload_n dX10_readsStep_195 rfl rfl k) ?_
              refine Xi.up (pc' := 198) (fun _ _ k => x_bipush dX10_readsStep_196 (show inR 16 from ⟨by decide, by decide⟩) (by decide) k) ?_
              refine Xi.up (pc' := 199) (fun _ _ k => x_iload_n dX10_readsStep_198 rfl rfl k) ?_
              refine Xi.up (pc' := 201) (fun _ _ k => x_bipush dX10_readsStep_199 (show inR 48 from ⟨by decide, by decide⟩) (by decide) k) ?_
              obtain ⟨g91, h⟩ := h
              refine Xi.up (pc' := 202) (fun _ _ k => x_isub dX10_readsStep_201 g91 k) ?_
              refine Xi.up (pc' := 203) (fun _ _ k => x_iload_n dX10_readsStep_202 rfl rfl k) ?_
              refine Xi.up (pc' := 204) (fun _ _ k => x_iconst dX10_readsStep_203 (show inR 0 from ⟨by decide, by decide⟩) k) ?_
              obtain ⟨x93, M92, hc95, hK94, h⟩ := h
              refine Xi.up (pc' := 207) (st' := [zi x93]) (fun _ _ k => x_callVK (ci := 10) (as := [zi 16, zi (x4 - 48), zi x88, zi 0]) (st := []) hK89 k10_writes lm10_87 dX10_readsStep_204 rfl (by decide) (zs8 rfl) h0.1 ⟨_, _, rfl⟩ hc95 k) ?_
              exact Xi.ret ⟨dX10_readsStep_207, Or.inl rfl⟩ h
        · have h := h.2 c
          refine Xi.up (pc' := 143) (st' := [zi 0]) (fun _ _ k => x_in0 (st := []) lm10_43 dX10_readsStep_140 (zs8 rfl) c k) ?_
          refine Xi.br (tgt := 208) (pc' := 146) ((0 : Int) = 0) (fun _ _ kt kf => x_if_eq dX10_readsStep_143 rfl kt kf) (fun _ => ?_) (fun c => absurd (by decide) c)
          refine Xi.up (pc' := 209) (fun _ _ k => x_iload_n dX10_readsStep_208 rfl rfl k) ?_
          by_cases c0 : x4 = 33
          · refine Xi.up (pc' := 301) (fun _ _ k => x_lookup dX10_readsStep_209 rfl (off := 92) (by rw [c0]; rfl) rfl k) ?_
            have h := h.1 c0
            refine Xi.up (pc' := 302) (fun _ _ k => x_aload_n dX10_readsStep_301 rfl rfl k) ?_
            refine Xi.up (pc' := 303) (fun _ _ k => x_dupR dX10_readsStep_302 k) ?_
            refine Xi.up (pc' := 306) (fun _ _ k => x_getIK hK9 lf10_51 rfl dX10_readsStep_303 h0.1 k) ?_
            refine Xi.up (pc' := 307) (fun _ _ k => x_iconst dX10_readsStep_306 (show inR 1 from ⟨by decide, by decide⟩) k) ?_
            obtain ⟨g96, h⟩ := h
            refine Xi.up (pc' := 308) (fun _ _ k => x_iadd dX10_readsStep_307 g96 k) ?_
            refine Xi.up (pc' := 311) (fun _ _ k => x_putIK hK9 lf10_51 rfl rfl (Or.inl rfl) dX10_readsStep_308 h0.1 k) ?_
            have hK97 := KW.sI hK9 2230 2 ((mI M7 2230 2) + 1)
            refine Xi.up (pc' := 312) (fun _ _ k => x_aload_n dX10_readsStep_311 rfl rfl k) ?_
            refine Xi.up (pc' := 314) (fun _ _ k => x_bipush dX10_readsStep_312 (show inR 15 from ⟨by decide, by decide⟩) (by decide) k) ?_
            refine Xi.up (pc' := 315) (fun _ _ k => x_iconst dX10_readsStep_314 (show inR 0 from ⟨by decide, by decide⟩) k) ?_
            refine Xi.up (pc' := 316) (fun _ _ k => x_iconst dX10_readsStep_315 (show inR 0 from ⟨by decide, by decide⟩) k) ?_
            refine Xi.up (pc' := 317) (fun _ _ k => x_iconst dX10_readsStep_316 (show inR 0 from ⟨by decide, by decide⟩) k) ?_
            obtain ⟨x99, M98, hc101, hK100, h⟩ := h
            refine Xi.up (pc' := 320) (st' := [zi x99]) (fun _ _ k => x_callVK (ci := 10) (as := [zi 15, zi 0, zi 0, zi 0]) (st := []) hK97 k10_writes lm10_87 dX10_readsStep_317 rfl (by decide) (zs8 rfl) h0.1 ⟨_, _, rfl⟩ hc101 k) ?_
            exact Xi.ret ⟨dX10_readsStep_320, Or.inl rfl⟩ h
          · skip
            by_cases c1 : x4 = 40
            · refine Xi.up (pc' := 252) (fun _ _ k => x_lookup dX10_readsStep_209 rfl (off := 43) (by rw [c1]; rfl) rfl k) ?_
              have h := h.2.1 c1
              refine Xi.up (pc' := 253) (fun _ _ k => x_aload_n dX10_readsStep_252 rfl rfl k) ?_
              obtain ⟨x103, M102, hc105, hK104, h⟩ := h
              refine Xi.up (pc' := 256) (st' := [zi x103]) (fun _ _ k => x_callVK (ci := 10) (as := []) (st := []) hK9 k10_readsWays lm10_119 dX10_readsStep_253 rfl (by decide) (zs8 rfl) h0.1 ⟨_, _, rfl⟩ hc105 k) ?_
              exact Xi.ret ⟨dX10_readsStep_256, Or.inl rfl⟩ h
            · skip
              by_cases c2 : x4 = 91
              · refine Xi.up (pc' := 257) (fun _ _ k => x_lookup dX10_readsStep_209 rfl (off := 48) (by rw [c2]; rfl) rfl k) ?_
                have h := h.2.2.1 c2
                refine Xi.up (pc' := 258) (fun _ _ k => x_aload_n dX10_readsStep_257 rfl rfl k) ?_
                refine Xi.up (pc' := 260) (fun _ _ k => x_bipush dX10_readsStep_258 (show inR 13 from ⟨by decide, by decide⟩) (by decide) k) ?_
                refine Xi.up (pc' := 261) (fun _ _ k => x_aload_n dX10_readsStep_260 rfl rfl k) ?_
                refine Xi.up (pc' := 263) (fun _ _ k => x_bipush dX10_readsStep_261 (show inR 91 from ⟨by decide, by decide⟩) (by decide) k) ?_
                refine Xi.up (pc' := 265) (fun _ _ k => x_bipush dX10_readsStep_263 (show inR 93 from ⟨by decide, by decide⟩) (by decide) k) ?_
                obtain ⟨x107, M106, hc109, hK108, h⟩ := h
                refine Xi.up (pc' := 268) (st' := [zi x107, zi 13, zr 2230]) (fun _ _ k => x_callVK (ci := 10) (as := [zi 91, zi 93]) (st := [zi 13, zr 2230]) hK9 k10_readsBrackets lm10_115 dX10_readsStep_265 rfl (by decide) (zs8 rfl) h0.1 ⟨_, _, rfl⟩ hc109 k) ?_
                refine Xi.up (pc' := 269) (fun _ _ k => x_iconst dX10_readsStep_268 (show inR 0 from ⟨by decide, by decide⟩) k) ?_
                refine Xi.up (pc' := 270) (fun _ _ k => x_iconst dX10_readsStep_269 (show inR 0 from ⟨by decide, by decide⟩) k) ?_
                obtain ⟨x111, M110, hc113, hK112, h⟩ := h
                refine Xi.up (pc' := 273) (st' := [zi x111]) (fun _ _ k => x_callVK (ci := 10) (as := [zi 13, zi x107, zi 0, zi 0]) (st := []) hK108 k10_writes lm10_87 dX10_readsStep_270 rfl (by decide) (zs8 rfl) h0.1 ⟨_, _, rfl⟩ hc113 k) ?_
                exact Xi.ret ⟨dX10_readsStep_273, Or.inl rfl⟩ h
              · skip
                by_cases c3 : x4 = 126
                · refine Xi.up (pc' := 274) (fun _ _ k => x_lookup dX10_readsStep_209 rfl (off := 65) (by rw [c3]; rfl) rfl k) ?_
                  have h := h.2.2.2.1 c3
                  refine Xi.up (pc' := 275) (fun _ _ k => x_aload_n dX10_readsStep_274 rfl rfl k) ?_
                  refine Xi.up (pc' := 276) (fun _ _ k => x_dupR dX10_readsStep_275 k) ?_
                  refine Xi.up (pc' := 279) (fun _ _ k => x_getIK hK9 lf10_51 rfl dX10_readsStep_276 h0.1 k) ?_
                  refine Xi.up (pc' := 280) (fun _ _ k => x_iconst dX10_readsStep_279 (show inR 1 from ⟨by decide, by decide⟩) k) ?_
                  obtain ⟨g114, h⟩ := h
                  refine Xi.up (pc' := 281) (fun _ _ k => x_iadd dX10_readsStep_280 g114 k) ?_
                  refine Xi.up (pc' := 284) (fun _ _ k => x_putIK hK9 lf10_51 rfl rfl (Or.inl rfl) dX10_readsStep_281 h0.1 k) ?_
                  have hK115 := KW.sI hK9 2230 2 ((mI M7 2230 2) + 1)
                  refine Xi.up (pc' := 285) (fun _ _ k => x_aload_n dX10_readsStep_284 rfl rfl k) ?_
                  refine Xi.up (pc' := 287) (fun _ _ k => x_bipush dX10_readsStep_285 (show inR 14 from ⟨by decide, by decide⟩) (by decide) k) ?_
                  refine Xi.up (pc' := 288) (fun _ _ k => x_aload_n dX10_readsStep_287 rfl rfl k) ?_
                  refine Xi.up (pc' := 290) (fun _ _ k => x_bipush dX10_readsStep_288 (show inR 91 from ⟨by decide, by decide⟩) (by decide) k) ?_
                  refine Xi.up (pc' := 292) (fun _ _ k => x_bipush dX10_readsStep_290 (show inR 93 from ⟨by decide, by decide⟩) (by decide) k) ?_
                  obtain ⟨x117, M116, hc119, hK118, h⟩ := h
                  refine Xi.up (pc' := 295) (st' := [zi x117, zi 14, zr 2230]) (fun _ _ k => x_callVK (ci := 10) (as := [zi 91, zi 93]) (st := [zi 14, zr 2230]) hK115 k10_readsBrackets lm10_115 dX10_readsStep_292 rfl (by decide) (zs8 rfl) h0.1 ⟨_, _, rfl⟩ hc119 k) ?_
                  refine Xi.up (pc' := 296) (fun _ _ k => x_iconst dX10_readsStep_295 (show inR 0 from ⟨by decide, by decide⟩) k) ?_
                  refine Xi.up (pc' := 297) (fun _ _ k => x_iconst dX10_readsStep_296 (show inR 0 from ⟨by decide, by decide⟩) k) ?_
                  obtain ⟨x121, M120, hc123, hK122, h⟩ := h
                  refine Xi.up (pc' := 300) (st' := [zi x121]) (fun _ _ k => x_callVK (ci := 10) (as := [zi 14, zi x117, zi 0, zi 0]) (st := []) hK118 k10_writes lm10_87 dX10_readsStep_297 rfl (by decide) (zs8 rfl) h0.1 ⟨_, _, rfl⟩ hc123 k) ?_
                  exact Xi.ret ⟨dX10_readsStep_300, Or.inl rfl⟩ h
                · skip
                  refine Xi.up (pc' := 321) (fun _ _ k => x_lookup dX10_readsStep_209 rfl (off := 112) (by simp [Op.lookupswitch.offset_cons, Op.lookupswitch.offset_nil, Ne.symm c0, c0, Ne.symm c1, c1, Ne.symm c2, c2, Ne.symm c3, c3]) rfl k) ?_
                  have h := h.2.2.2.2 ⟨c0, c1, c2, c3⟩
                  refine Xi.up (pc' := 322) (fun _ _ k => x_aload_n dX10_readsStep_321 rfl rfl k) ?_
                  obtain ⟨x125, M124, hc127, hK126, h⟩ := h
                  refine Xi.up (pc' := 325) (st' := [zi x125]) (fun _ _ k => x_callVK (ci := 10) (as := []) (st := []) hK9 k10_readsTest lm10_122 dX10_readsStep_322 rfl (by decide) (zs8 rfl) h0.1 ⟨_, _, rfl⟩ hc127 k) ?_
                  exact Xi.ret ⟨dX10_readsStep_325, Or.inl rfl⟩ h
      · have h := h.2 c
        refine Xi.up (pc' := 51) (fun _ _ k => x_aload_n dX10_readsStep_50 rfl rfl k) ?_
        refine Xi.up (pc' := 52) (fun _ _ k => x_aload_n dX10_readsStep_51 rfl rfl k) ?_
        refine Xi.up (pc' := 55) (fun _ _ k => x_getIK hK9 lf10_51 rfl dX10_readsStep_52 h0.1 k) ?_
        refine Xi.up (pc' := 56) (fun _ _ k => x_iconst dX10_readsStep_55 (show inR 1 from ⟨by decide, by decide⟩) k) ?_
        obtain ⟨g128, h⟩ := h
        refine Xi.up (pc' := 57) (fun _ _ k => x_iadd dX10_readsStep_56 g128 k) ?_
        obtain ⟨x130, M129, hc132, hK131, h⟩ := h
        refine Xi.up (pc' := 60) (st' := [zi x130]) (fun _ _ k => x_callVK (ci := 10) (as := [zi ((mI M7 2230 2) + 1)]) (st := []) hK9 k10_byteAt lm10_54 dX10_readsStep_57 rfl (by decide) (zs8 rfl) h0.1 ⟨_, _, rfl⟩ hc132 k) ?_
        refine Xi.up (pc' := 62) (fun _ _ k => x_bipush dX10_readsStep_60 (show inR 58 from ⟨by decide, by decide⟩) (by decide) k) ?_
        refine Xi.br (tgt := 80) (pc' := 65) (x130 = 58) (fun _ _ kt kf => x_icmp_eq dX10_readsStep_62 rfl kt kf) (fun c => ?_) (fun c => ?_)
        · have h := h.1 c
          refine Xi.up (pc' := 81) (fun _ _ k => x_aload_n dX10_readsStep_80 rfl rfl k) ?_
          refine Xi.up (pc' := 82) (fun _ _ k => x_dupR dX10_readsStep_81 k) ?_
          refine Xi.up (pc' := 85) (fun _ _ k => x_getIK hK131 lf10_51 rfl dX10_readsStep_82 h0.1 k) ?_
          refine Xi.up (pc' := 86) (fun _ _ k => x_iconst dX10_readsStep_85 (show inR 2 from ⟨by decide, by decide⟩) k) ?_
          obtain ⟨g133, h⟩ := h
          refine Xi.up (pc' := 87) (fun _ _ k => x_iadd dX10_readsStep_86 g133 k) ?_
          refine Xi.up (pc' := 90) (fun _ _ k => x_putIK hK131 lf10_51 rfl rfl (Or.inl rfl) dX10_readsStep_87 h0.1 k) ?_
          have hK134 := KW.sI hK131 2230 2 ((mI M129 2230 2) + 2)
          refine Xi.up (pc' := 91) (fun _ _ k => x_aload_n dX10_readsStep_90 rfl rfl k) ?_
          refine Xi.up (pc' := 92) (fun _ _ k => x_aload_n dX10_readsStep_91 rfl rfl k) ?_
          refine Xi.up (pc' := 95) (fun _ _ k => x_getIK hK134 lf10_51 rfl dX10_readsStep_92 h0.1 k) ?_
          refine Xi.up (pc' := 96) (fun _ _ k => x_iconst dX10_readsStep_95 (show inR 1 from ⟨by decide, by decide⟩) k) ?_
          obtain ⟨g135, h⟩ := h
          refine Xi.up (pc' := 97) (fun _ _ k => x_isub dX10_readsStep_96 g135 k) ?_
          obtain ⟨x137, M136, hc139, hK138, h⟩ := h
          refine Xi.up (pc' := 100) (st' := [zi x137]) (fun _ _ k => x_callVK (ci := 10) (as := [zi ((mI (sI M129 2230 2 ((mI M129 2230 2) + 2)) 2230 2) - 1)]) (st := []) hK134 k10_byteAt lm10_54 dX10_readsStep_97 rfl (by decide) (zs8 rfl) h0.1 ⟨_, _, rfl⟩ hc139 k) ?_
          refine Xi.up (pc' := 102) (fun _ _ k => x_bipush dX10_readsStep_100 (show inR 58 from ⟨by decide, by decide⟩) (by decide) k) ?_
          refine Xi.br (tgt := 123) (pc' := 105) (x137 ≠ 58) (fun _ _ kt kf => x_icmp_ne dX10_readsStep_102 rfl kt kf) (fun c => ?_) (fun c => ?_)
          · have h := h.1 c
            refine Xi.up (pc' := 124) (fun _ _ k => x_aload_n dX10_readsStep_123 rfl rfl k) ?_
            refine Xi.up (pc' := 125) (fun _ _ k => x_iload_n dX10_readsStep_124 rfl rfl k) ?_
            refine Xi.up (pc' := 127) (fun _ _ k => x_bipush dX10_readsStep_125 (show inR 97 from ⟨by decide, by decide⟩) (by decide) k) ?_
            obtain ⟨g140, h⟩ := h
            refine Xi.up (pc' := 128) (fun _ _ k => x_isub dX10_readsStep_127 g140 k) ?_
            obtain ⟨x142, M141, hc144, hK143, h⟩ := h
            refine Xi.up (pc' := 131) (st' := [zi x142]) (fun _ _ k => x_callVK (ci := 10) (as := [zi (x4 - 97)]) (st := []) hK138 k10_readsChoose lm10_110 dX10_readsStep_128 rfl (by decide) (zs8 rfl) h0.1 ⟨_, _, rfl⟩ hc144 k) ?_
            exact Xi.ret ⟨dX10_readsStep_131, Or.inl rfl⟩ h
          · have h := h.2 c
            refine Xi.up (pc' := 106) (fun _ _ k => x_aload_n dX10_readsStep_105 rfl rfl k) ?_
            refine Xi.up (pc' := 108) (fun _ _ k => x_bipush dX10_readsStep_106 (show inR 7 from ⟨by decide, by decide⟩) (by decide) k) ?_
            refine Xi.up (pc' := 109) (fun _ _ k => x_iload_n dX10_readsStep_108 rfl rfl k) ?_
            refine Xi.up (pc' := 111) (fun _ _ k => x_bipush dX10_readsStep_109 (show inR 97 from ⟨by decide, by decide⟩) (by decide) k) ?_
            obtain ⟨g145, h⟩ := h
            refine Xi.up (pc' := 112) (fun _ _ k => x_isub dX10_readsStep_111 g145 k) ?_
            refine Xi.up (pc' := 113) (fun _ _ k => x_aload_n dX10_readsStep_112 rfl rfl k) ?_
            obtain ⟨x147, M146, hc149, hK148, h⟩ := h
            refine Xi.up (pc' := 116) (st' := [zi x147, zi (x4 - 97), zi 7, zr 2230]) (fun _ _ k => x_callVK (ci := 10) (as := []) (st := [zi (x4 - 97), zi 7, zr 2230]) hK138 k10_readsSum lm10_107 dX10_readsStep_113 rfl (by decide) (zs8 rfl) h0.1 ⟨_, _, rfl⟩ hc149 k) ?_
            refine Xi.up (pc' := 117) (fun _ _ k => x_iconst dX10_readsStep_116 (show inR 0 from ⟨by decide, by decide⟩) k) ?_
            obtain ⟨x151, M150, hc153, hK152, h⟩ := h
            refine Xi.up (pc' := 120) (st' := [zi x151]) (fun _ _ k => x_callVK (ci := 10) (as := [zi 7, zi (x4 - 97), zi x147, zi 0]) (st := []) hK148 k10_writes lm10_87 dX10_readsStep_117 rfl (by decide) (zs8 rfl) h0.1 ⟨_, _, rfl⟩ hc153 k) ?_
            refine Xi.up (pc' := 131) (fun _ _ k => x_goto dX10_readsStep_120 rfl k) ?_
            exact Xi.ret ⟨dX10_readsStep_131, Or.inl rfl⟩ h
        · have h := h.2 c
          refine Xi.up (pc' := 66) (fun _ _ k => x_aload_n dX10_readsStep_65 rfl rfl k) ?_
          refine Xi.up (pc' := 67) (fun _ _ k => x_aload_n dX10_readsStep_66 rfl rfl k) ?_
          refine Xi.up (pc' := 70) (fun _ _ k => x_getIK hK131 lf10_51 rfl dX10_readsStep_67 h0.1 k) ?_
          refine Xi.up (pc' := 71) (fun _ _ k => x_iconst dX10_readsStep_70 (show inR 1 from ⟨by decide, by decide⟩) k) ?_
          obtain ⟨g154, h⟩ := h
          refine Xi.up (pc' := 72) (fun _ _ k => x_iadd dX10_readsStep_71 g154 k) ?_
          obtain ⟨x156, M155, hc158, hK157, h⟩ := h
          refine Xi.up (pc' := 75) (st' := [zi x156]) (fun _ _ k => x_callVK (ci := 10) (as := [zi ((mI M129 2230 2) + 1)]) (st := []) hK131 k10_byteAt lm10_54 dX10_readsStep_72 rfl (by decide) (zs8 rfl) h0.1 ⟨_, _, rfl⟩ hc158 k) ?_
          refine Xi.up (pc' := 77) (fun _ _ k => x_bipush dX10_readsStep_75 (show inR 63 from ⟨by decide, by decide⟩) (by decide) k) ?_
          refine Xi.br (tgt := 132) (pc' := 80) (x156 ≠ 63) (fun _ _ kt kf => x_icmp_ne dX10_readsStep_77 rfl kt kf) (fun c => ?_) (fun c => ?_)
          · have h := h.1 c
            refine Xi.up (pc' := 133) (fun _ _ k => x_iload_n dX10_readsStep_132 rfl rfl k) ?_
            refine Xi.up (pc' := 134) (fun _ _ k => x_i2l dX10_readsStep_133 k) ?_
            refine Xi.up (pc' := 137) (fun _ _ k => x_ldc2 ll10_113 dX10_readsStep_134 (show inL 49 from ⟨by decide, by decide⟩) rfl k) ?_
            refine Xi.up (pc' := 140) (fun _ _ k => x_ldc2 ll10_96 dX10_readsStep_137 (show inL 57 from ⟨by decide, by decide⟩) rfl k) ?_
            by_cases c : 49 ≤ x4 ∧ x4 ≤ 57
            · have h := h.1 c
              refine Xi.up (pc' := 143) (st' := [zi 1]) (fun _ _ k => x_in1 (st := []) lm10_43 dX10_readsStep_140 (zs8 rfl) c k) ?_
              refine Xi.br (tgt := 208) (pc' := 146) ((1 : Int) = 0) (fun _ _ kt kf => x_if_eq dX10_readsStep_143 rfl kt kf) (fun c => absurd c (by decide)) (fun _ => ?_)
              refine Xi.up (pc' := 147) (fun _ _ k => x_aload_n dX10_readsStep_146 rfl rfl k) ?_
              refine Xi.up (pc' := 148) (fun _ _ k => x_aload_n dX10_readsStep_147 rfl rfl k) ?_
              refine Xi.up (pc' := 151) (fun _ _ k => x_getIK hK157 lf10_51 rfl dX10_readsStep_148 h0.1 k) ?_
              refine Xi.up (pc' := 152) (fun _ _ k => x_iconst dX10_readsStep_151 (show inR 1 from ⟨by decide, by decide⟩) k) ?_
              obtain ⟨g159, h⟩ := h
              refine Xi.up (pc' := 153) (fun _ _ k => x_iadd dX10_readsStep_152 g159 k) ?_
              obtain ⟨x161, M160, hc163, hK162, h⟩ := h
              refine Xi.up (pc' := 156) (st' := [zi x161]) (fun _ _ k => x_callVK (ci := 10) (as := [zi ((mI M155 2230 2) + 1)]) (st := []) hK157 k10_byteAt lm10_54 dX10_readsStep_153 rfl (by decide) (zs8 rfl) h0.1 ⟨_, _, rfl⟩ hc163 k) ?_
              refine Xi.up (pc' := 158) (fun _ _ k => x_bipush dX10_readsStep_156 (show inR 42 from ⟨by decide, by decide⟩) (by decide) k) ?_
              refine Xi.br (tgt := 208) (pc' := 161) (x161 ≠ 42) (fun _ _ kt kf => x_icmp_ne dX10_readsStep_158 rfl kt kf) (fun c => ?_) (fun c => ?_)
              · have h := h.1 c
                refine Xi.up (pc' := 209) (fun _ _ k => x_iload_n dX10_readsStep_208 rfl rfl k) ?_
                by_cases c0 : x4 = 33
                · refine Xi.up (pc' := 301) (fun _ _ k => x_lookup dX10_readsStep_209 rfl (off := 92) (by rw [c0]; rfl) rfl k) ?_
                  have h := h.1 c0
                  refine Xi.up (pc' := 302) (fun _ _ k => x_aload_n dX10_readsStep_301 rfl rfl k) ?_
                  refine Xi.up (pc' := 303) (fun _ _ k => x_dupR dX10_readsStep_302 k) ?_
                  refine Xi.up (pc' := 306) (fun _ _ k => x_getIK hK162 lf10_51 rfl dX10_readsStep_303 h0.1 k) ?_
                  refine Xi.up (pc' := 307) (fun _ _ k => x_iconst dX10_readsStep_306 (show inR 1 from ⟨by decide, by decide⟩) k) ?_
                  obtain ⟨g164, h⟩ := h
                  refine Xi.up (pc' := 308) (fun _ _ k => x_iadd dX10_readsStep_307 g164 k) ?_
                  refine Xi.up (pc' := 311) (fun _ _ k => x_putIK hK162 lf10_51 rfl rfl (Or.inl rfl) dX10_readsStep_308 h0.1 k) ?_
                  have hK165 := KW.sI hK162 2230 2 ((mI M160 2230 2) + 1)
                  refine Xi.up (pc' := 312) (fun _ _ k => x_aload_n dX10_readsStep_311 rfl rfl k) ?_
                  refine Xi.up (pc' := 314) (fun _ _ k => x_bipush dX10_readsStep_312 (show inR 15 from ⟨by decide, by decide⟩) (by decide) k) ?_
                  refine Xi.up (pc' := 315) (fun _ _ k => x_iconst dX10_readsStep_314 (show inR 0 from ⟨by decide, by decide⟩) k) ?_
                  refine Xi.up (pc' := 316) (fun _ _ k => x_iconst dX10_readsStep_315 (show inR 0 from ⟨by decide, by decide⟩) k) ?_
                  refine Xi.up (pc' := 317) (fun _ _ k => x_iconst dX10_readsStep_316 (show inR 0 from ⟨by decide, by decide⟩) k) ?_
                  obtain ⟨x167, M166, hc169, hK168, h⟩ := h
                  refine Xi.up (pc' := 320) (st' := [zi x167]) (fun _ _ k => x_callVK (ci := 10) (as := [zi 15, zi 0, zi 0, zi 0]) (st := []) hK165 k10_writes lm10_87 dX10_readsStep_317 rfl (by decide) (zs8 rfl) h0.1 ⟨_, _, rfl⟩ hc169 k) ?_
                  exact Xi.ret ⟨dX10_readsStep_320, Or.inl rfl⟩ h
                · skip
                  by_cases c1 : x4 = 40
                  · refine Xi.up (pc' := 252) (fun _ _ k => x_lookup dX10_readsStep_209 rfl (off := 43) (by rw [c1]; rfl) rfl k) ?_
                    have h := h.2.1 c1
                    refine Xi.up (pc' := 253) (fun _ _ k => x_aload_n dX10_readsStep_252 rfl rfl k) ?_
                    obtain ⟨x171, M170, hc173, hK172, h⟩ := h
                    refine Xi.up (pc' := 256) (st' := [zi x171]) (fun _ _ k => x_callVK (ci := 10) (as := []) (st := []) hK162 k10_readsWays lm10_119 dX10_readsStep_253 rfl (by decide) (zs8 rfl) h0.1 ⟨_, _, rfl⟩ hc173 k) ?_
                    exact Xi.ret ⟨dX10_readsStep_256, Or.inl rfl⟩ h
                  · skip
                    by_cases c2 : x4 = 91
                    · refine Xi.up (pc' := 257) (fun _ _ k => x_lookup dX10_readsStep_209 rfl (off := 48) (by rw [c2]; rfl) rfl k) ?_
                      have h := h.2.2.1 c2
                      refine Xi.up (pc' := 258) (fun _ _ k => x_aload_n dX10_readsStep_257 rfl rfl k) ?_
                      refine Xi.up (pc' := 260) (fun _ _ k => x_bipush dX10_readsStep_258 (show inR 13 from ⟨by decide, by decide⟩) (by decide) k) ?_
                      refine Xi.up (pc' := 261) (fun _ _ k => x_aload_n dX10_readsStep_260 rfl rfl k) ?_
                      refine Xi.up (pc' := 263) (fun _ _ k => x_bipush dX10_readsStep_261 (show inR 91 from ⟨by decide, by decide⟩) (by decide) k) ?_
                      refine Xi.up (pc' := 265) (fun _ _ k => x_bipush dX10_readsStep_263 (show inR 93 from ⟨by decide, by decide⟩) (by decide) k) ?_
                      obtain ⟨x175, M174, hc177, hK176, h⟩ := h
                      refine Xi.up (pc' := 268) (st' := [zi x175, zi 13, zr 2230]) (fun _ _ k => x_callVK (ci := 10) (as := [zi 91, zi 93]) (st := [zi 13, zr 2230]) hK162 k10_readsBrackets lm10_115 dX10_readsStep_265 rfl (by decide) (zs8 rfl) h0.1 ⟨_, _, rfl⟩ hc177 k) ?_
                      refine Xi.up (pc' := 269) (fun _ _ k => x_iconst dX10_readsStep_268 (show inR 0 from ⟨by decide, by decide⟩) k) ?_
                      refine Xi.up (pc' := 270) (fun _ _ k => x_iconst dX10_readsStep_269 (show inR 0 from ⟨by decide, by decide⟩) k) ?_
                      obtain ⟨x179, M178, hc181, hK180, h⟩ := h
                      refine Xi.up (pc' := 273) (st' := [zi x179]) (fun _ _ k => x_callVK (ci := 10) (as := [zi 13, zi x175, zi 0, zi 0]) (st := []) hK176 k10_writes lm10_87 dX10_readsStep_270 rfl (by decide) (zs8 rfl) h0.1 ⟨_, _, rfl⟩ hc181 k) ?_
                      exact Xi.ret ⟨dX10_readsStep_273, Or.inl rfl⟩ h
                    · skip
                      by_cases c3 : x4 = 126
                      · refine Xi.up (pc' := 274) (fun _ _ k => x_lookup dX10_readsStep_209 rfl (off := 65) (by rw [c3]; rfl) rfl k) ?_
                        have h := h.2.2.2.1 c3
                        refine Xi.up (pc' := 275) (fun _ _ k => x_aload_n dX10_readsStep_274 rfl rfl k) ?_
                        refine Xi.up (pc' := 276) (fun _ _ k => x_dupR dX10_readsStep_275 k) ?_
                        refine Xi.up (pc' := 279) (fun _ _ k => x_getIK hK162 lf10_51 rfl dX10_readsStep_276 h0.1 k) ?_
                        refine Xi.up (pc' := 280) (fun _ _ k => x_iconst dX10_readsStep_279 (show inR 1 from ⟨by decide, by decide⟩) k) ?_
                        obtain ⟨g182, h⟩ := h
                        refine Xi.up (pc' := 281) (fun _ _ k => x_iadd dX10_readsStep_280 g182 k) ?_
                        refine Xi.up (pc' := 284) (fun _ _ k => x_putIK hK162 lf10_51 rfl rfl (Or.inl rfl) dX10_readsStep_281 h0.1 k) ?_
                        have hK183 := KW.sI hK162 2230 2 ((mI M160 2230 2) + 1)
                        refine Xi.up (pc' := 285) (fun _ _ k => x_aload_n dX10_readsStep_284 rfl rfl k) ?_
                        refine Xi.up (pc' := 287) (fun _ _ k => x_bipush dX10_readsStep_285 (show inR 14 from ⟨by decide, by decide⟩) (by decide) k) ?_
                        refine Xi.up (pc' := 288) (fun _ _ k => x_aload_n dX10_readsStep_287 rfl rfl k) ?_
                        refine Xi.up (pc' := 290) (fun _ _ k => x_bipush dX10_readsStep_288 (show inR 91 from ⟨by decide, by decide⟩) (by decide) k) ?_
                        refine Xi.up (pc' := 292) (fun _ _ k => x_bipush dX10_readsStep_290 (show inR 93 from ⟨by decide, by decide⟩) (by decide) k) ?_
                        obtain ⟨x185, M184, hc187, hK186, h⟩ := h
                        refine Xi.up (pc' := 295) (st' := [zi x185, zi 14, zr 2230]) (fun _ _ k => x_callVK (ci := 10) (as := [zi 91, zi 93]) (st := [zi 14, zr 2230]) hK183 k10_readsBrackets lm10_115 dX10_readsStep_292 rfl (by decide) (zs8 rfl) h0.1 ⟨_, _, rfl⟩ hc187 k) ?_
                        refine Xi.up (pc' := 296) (fun _ _ k => x_iconst dX10_readsStep_295 (show inR 0 from ⟨by decide, by decide⟩) k) ?_
                        refine Xi.up (pc' := 297) (fun _ _ k => x_iconst dX10_readsStep_296 (show inR 0 from ⟨by decide, by decide⟩) k) ?_
                        obtain ⟨x189, M188, hc191, hK190, h⟩ := h
                        refine Xi.up (pc' := 300) (st' := [zi x189]) (fun _ _ k => x_callVK (ci := 10) (as := [zi 14, zi x185, zi 0, zi 0]) (st := []) hK186 k10_writes lm10_87 dX10_readsStep_297 rfl (by decide) (zs8 rfl) h0.1 ⟨_, _, rfl⟩ hc191 k) ?_
                        exact Xi.ret ⟨dX10_readsStep_300, Or.inl rfl⟩ h
                      · skip
                        refine Xi.up (pc' := 321) (fun _ _ k => x_lookup dX10_readsStep_209 rfl (off := 112) (by simp [Op.lookupswitch.offset_cons, Op.lookupswitch.offset_nil, Ne.symm c0, c0, Ne.symm c1, c1, Ne.symm c2, c2, Ne.symm c3, c3]) rfl k) ?_
                        have h := h.2.2.2.2 ⟨c0, c1, c2, c3⟩
                        refine Xi.up (pc' := 322) (fun _ _ k => x_aload_n dX10_readsStep_321 rfl rfl k) ?_
                        obtain ⟨x193, M192, hc195, hK194, h⟩ := h
                        refine Xi.up (pc' := 325) (st' := [zi x193]) (fun _ _ k => x_callVK (ci := 10) (as := []) (st := []) hK162 k10_readsTest lm10_122 dX10_readsStep_322 rfl (by decide) (zs8 rfl) h0.1 ⟨_, _, rfl⟩ hc195 k) ?_
                        exact Xi.ret ⟨dX10_readsStep_325, Or.inl rfl⟩ h
              · have h := h.2 c
                refine Xi.up (pc' := 162) (fun _ _ k => x_aload_n dX10_readsStep_161 rfl rfl k) ?_
                refine Xi.up (pc' := 163) (fun _ _ k => x_aload_n dX10_readsStep_162 rfl rfl k) ?_
                refine Xi.up (pc' := 166) (fun _ _ k => x_getIK hK162 lf10_51 rfl dX10_readsStep_163 h0.1 k) ?_
                refine Xi.up (pc' := 167) (fun _ _ k => x_iconst dX10_readsStep_166 (show inR 2 from ⟨by decide, by decide⟩) k) ?_
                obtain ⟨g196, h⟩ := h
                refine Xi.up (pc' := 168) (fun _ _ k => x_iadd dX10_readsStep_167 g196 k) ?_
                obtain ⟨x198, M197, hc200, hK199, h⟩ := h
                refine Xi.up (pc' := 171) (st' := [zi x198]) (fun _ _ k => x_callVK (ci := 10) (as := [zi ((mI M160 2230 2) + 2)]) (st := []) hK162 k10_byteAt lm10_54 dX10_readsStep_168 rfl (by decide) (zs8 rfl) h0.1 ⟨_, _, rfl⟩ hc200 k) ?_
                refine Xi.up (pc' := 173) (fun _ _ k => x_bipush dX10_readsStep_171 (show inR 40 from ⟨by decide, by decide⟩) (by decide) k) ?_
                refine Xi.br (tgt := 208) (pc' := 176) (x198 ≠ 40) (fun _ _ kt kf => x_icmp_ne dX10_readsStep_173 rfl kt kf) (fun c => ?_) (fun c => ?_)
                · have h := h.1 c
                  refine Xi.up (pc' := 209) (fun _ _ k => x_iload_n dX10_readsStep_208 rfl rfl k) ?_
                  by_cases c0 : x4 = 33
                  · refine Xi.up (pc' := 301) (fun _ _ k => x_lookup dX10_readsStep_209 rfl (off := 92) (by rw [c0]; rfl) rfl k) ?_
                    have h := h.1 c0
                    refine Xi.up (pc' := 302) (fun _ _ k => x_aload_n dX10_readsStep_301 rfl rfl k) ?_
                    refine Xi.up (pc' := 303) (fun _ _ k => x_dupR dX10_readsStep_302 k) ?_
                    refine Xi.up (pc' := 306) (fun _ _ k => x_getIK hK199 lf10_51 rfl dX10_readsStep_303 h0.1 k) ?_
                    refine Xi.up (pc' := 307) (fun _ _ k => x_iconst dX10_readsStep_306 (show inR 1 from ⟨by decide, by decide⟩) k) ?_
                    obtain ⟨g201, h⟩ := h
                    refine Xi.up (pc' := 308) (fun _ _ k => x_iadd dX10_readsStep_307 g201 k) ?_
                    refine Xi.up (pc' := 311) (fun _ _ k => x_putIK hK199 lf10_51 rfl rfl (Or.inl rfl) dX10_readsStep_308 h0.1 k) ?_
                    have hK202 := KW.sI hK199 2230 2 ((mI M197 2230 2) + 1)
                    refine Xi.up (pc' := 312) (fun _ _ k => x_aload_n dX10_readsStep_311 rfl rfl k) ?_
                    refine Xi.up (pc' := 314) (fun _ _ k => x_bipush dX10_readsStep_312 (show inR 15 from ⟨by decide, by decide⟩) (by decide) k) ?_
                    refine Xi.up (pc' := 315) (fun _ _ k => x_iconst dX10_readsStep_314 (show inR 0 from ⟨by decide, by decide⟩) k) ?_
                    refine Xi.up (pc' := 316) (fun _ _ k => x_iconst dX10_readsStep_315 (show inR 0 from ⟨by decide, by decide⟩) k) ?_
                    refine Xi.up (pc' := 317) (fun _ _ k => x_iconst dX10_readsStep_316 (show inR 0 from ⟨by decide, by decide⟩) k) ?_
                    obtain ⟨x204, M203, hc206, hK205, h⟩ := h
                    refine Xi.up (pc' := 320) (st' := [zi x204]) (fun _ _ k => x_callVK (ci := 10) (as := [zi 15, zi 0, zi 0, zi 0]) (st := []) hK202 k10_writes lm10_87 dX10_readsStep_317 rfl (by decide) (zs8 rfl) h0.1 ⟨_, _, rfl⟩ hc206 k) ?_
                    exact Xi.ret ⟨dX10_readsStep_320, Or.inl rfl⟩ h
                  · skip
                    by_cases c1 : x4 = 40
                    · refine Xi.up (pc' := 252) (fun _ _ k => x_lookup dX10_readsStep_209 rfl (off := 43) (by rw [c1]; rfl) rfl k) ?_
                      have h := h.2.1 c1
                      refine Xi.up (pc' := 253) (fun _ _ k => x_aload_n dX10_readsStep_252 rfl rfl k) ?_
                      obtain ⟨x208, M207, hc210, hK209, h⟩ := h
                      refine Xi.up (pc' := 256) (st' := [zi x208]) (fun _ _ k => x_callVK (ci := 10) (as := []) (st := []) hK199 k10_readsWays lm10_119 dX10_readsStep_253 rfl (by decide) (zs8 rfl) h0.1 ⟨_, _, rfl⟩ hc210 k) ?_
                      exact Xi.ret ⟨dX10_readsStep_256, Or.inl rfl⟩ h
                    · skip
                      by_cases c2 : x4 = 91
                      · refine Xi.up (pc' := 257) (fun _ _ k => x_lookup dX10_readsStep_209 rfl (off := 48) (by rw [c2]; rfl) rfl k) ?_
                        have h := h.2.2.1 c2
                        refine Xi.up (pc' := 258) (fun _ _ k => x_aload_n dX10_readsStep_257 rfl rfl k) ?_
                        refine Xi.up (pc' := 260) (fun _ _ k => x_bipush dX10_readsStep_258 (show inR 13 from ⟨by decide, by decide⟩) (by decide) k) ?_
                        refine Xi.up (pc' := 261) (fun _ _ k => x_aload_n dX10_readsStep_260 rfl rfl k) ?_
                        refine Xi.up (pc' := 263) (fun _ _ k => x_bipush dX10_readsStep_261 (show inR 91 from ⟨by decide, by decide⟩) (by decide) k) ?_
                        refine Xi.up (pc' := 265) (fun _ _ k => x_bipush dX10_readsStep_263 (show inR 93 from ⟨by decide, by decide⟩) (by decide) k) ?_
                        obtain ⟨x212, M211, hc214, hK213, h⟩ := h
                        refine Xi.up (pc' := 268) (st' := [zi x212, zi 13, zr 2230]) (fun _ _ k => x_callVK (ci := 10) (as := [zi 91, zi 93]) (st := [zi 13, zr 2230]) hK199 k10_readsBrackets lm10_115 dX10_readsStep_265 rfl (by decide) (zs8 rfl) h0.1 ⟨_, _, rfl⟩ hc214 k) ?_
                        refine Xi.up (pc' := 269) (fun _ _ k => x_iconst dX10_readsStep_268 (show inR 0 from ⟨by decide, by decide⟩) k) ?_
                        refine Xi.up (pc' := 270) (fun _ _ k => x_iconst dX10_readsStep_269 (show inR 0 from ⟨by decide, by decide⟩) k) ?_
                        obtain ⟨x216, M215, hc218, hK217, h⟩ := h
                        refine Xi.up (pc' := 273) (st' := [zi x216]) (fun _ _ k => x_callVK (ci := 10) (as := [zi 13, zi x212, zi 0, zi 0]) (st := []) hK213 k10_writes lm10_87 dX10_readsStep_270 rfl (by decide) (zs8 rfl) h0.1 ⟨_, _, rfl⟩ hc218 k) ?_
                        exact Xi.ret ⟨dX10_readsStep_273, Or.inl rfl⟩ h
                      · skip
                        by_cases c3 : x4 = 126
                        · refine Xi.up (pc' := 274) (fun _ _ k => x_lookup dX10_readsStep_209 rfl (off := 65) (by rw [c3]; rfl) rfl k) ?_
                          have h := h.2.2.2.1 c3
                          refine Xi.up (pc' := 275) (fun _ _ k => x_aload_n dX10_readsStep_274 rfl rfl k) ?_
                          refine Xi.up (pc' := 276) (fun _ _ k => x_dupR dX10_readsStep_275 k) ?_
                          refine Xi.up (pc' := 279) (fun _ _ k => x_getIK hK199 lf10_51 rfl dX10_readsStep_276 h0.1 k) ?_
                          refine Xi.up (pc' := 280) (fun _ _ k => x_iconst dX10_readsStep_279 (show inR 1 from ⟨by decide, by decide⟩) k) ?_
                          obtain ⟨g219, h⟩ := h
                          refine Xi.up (pc' := 281) (fun _ _ k => x_iadd dX10_readsStep_280 g219 k) ?_
                          refine Xi.up (pc' := 284) (fun _ _ k => x_putIK hK199 lf10_51 rfl rfl (Or.inl rfl) dX10_readsStep_281 h0.1 k) ?_
                          have hK220 := KW.sI hK199 2230 2 ((mI M197 2230 2) + 1)
                          refine Xi.up (pc' := 285) (fun _ _ k => x_aload_n dX10_readsStep_284 rfl rfl k) ?_
                          refine Xi.up (pc' := 287) (fun _ _ k => x_bipush dX10_readsStep_285 (show inR 14 from ⟨by decide, by decide⟩) (by decide) k) ?_
                          refine Xi.up (pc' := 288) (fun _ _ k => x_aload_n dX10_readsStep_287 rfl rfl k) ?_
                          refine Xi.up (pc' := 290) (fun _ _ k => x_bipush dX10_readsStep_288 (show inR 91 from ⟨by decide, by decide⟩) (by decide) k) ?_
                          refine Xi.up (pc' := 292) (fun _ _ k => x_bipush dX10_readsStep_290 (show inR 93 from ⟨by decide, by decide⟩) (by decide) k) ?_
                          obtain ⟨x222, M221, hc224, hK223, h⟩ := h
                          refine Xi.up (pc' := 295) (st' := [zi x222, zi 14, zr 2230]) (fun _ _ k => x_callVK (ci := 10) (as := [zi 91, zi 93]) (st := [zi 14, zr 2230]) hK220 k10_readsBrackets lm10_115 dX10_readsStep_292 rfl (by decide) (zs8 rfl) h0.1 ⟨_, _, rfl⟩ hc224 k) ?_
                          refine Xi.up (pc' := 296) (fun _ _ k => x_iconst dX10_readsStep_295 (show inR 0 from ⟨by decide, by decide⟩) k) ?_
                          refine Xi.up (pc' := 297) (fun _ _ k => x_iconst dX10_readsStep_296 (show inR 0 from ⟨by decide, by decide⟩) k) ?_
                          obtain ⟨x226, M225, hc228, hK227, h⟩ := h
                          refine Xi.up (pc' := 300) (st' := [zi x226]) (fun _ _ k => x_callVK (ci := 10) (as := [zi 14, zi x222, zi 0, zi 0]) (st := []) hK223 k10_writes lm10_87 dX10_readsStep_297 rfl (by decide) (zs8 rfl) h0.1 ⟨_, _, rfl⟩ hc228 k) ?_
                          exact Xi.ret ⟨dX10_readsStep_300, Or.inl rfl⟩ h
                        · skip
                          refine Xi.up (pc' := 321) (fun _ _ k => x_lookup dX10_readsStep_209 rfl (off := 112) (by simp [Op.lookupswitch.offset_cons, Op.lookupswitch.offset_nil, Ne.symm c0, c0, Ne.symm c1, c1, Ne.symm c2, c2, Ne.symm c3, c3]) rfl k) ?_
                          have h := h.2.2.2.2 ⟨c0, c1, c2, c3⟩
                          refine Xi.up (pc' := 322) (fun _ _ k => x_aload_n dX10_readsStep_321 rfl rfl k) ?_
                          obtain ⟨x230, M229, hc232, hK231, h⟩ := h
                          refine Xi.up (pc' := 325) (st' := [zi x230]) (fun _ _ k => x_callVK (ci := 10) (as := []) (st := []) hK199 k10_readsTest lm10_122 dX10_readsStep_322 rfl (by decide) (zs8 rfl) h0.1 ⟨_, _, rfl⟩ hc232 k) ?_
                          exact Xi.ret ⟨dX10_readsStep_325, Or.inl rfl⟩ h
                · have h := h.2 c
                  refine Xi.up (pc' := 177) (fun _ _ k => x_aload_n dX10_readsStep_176 rfl rfl k) ?_
                  refine Xi.up (pc' := 178) (fun _ _ k => x_dupR dX10_readsStep_177 k) ?_
                  refine Xi.up (pc' := 181) (fun _ _ k => x_getIK hK199 lf10_51 rfl dX10_readsStep_178 h0.1 k) ?_
                  refine Xi.up (pc' := 182) (fun _ _ k => x_iconst dX10_readsStep_181 (show inR 2 from ⟨by decide, by decide⟩) k) ?_
                  obtain ⟨g233, h⟩ := h
                  refine Xi.up (pc' := 183) (fun _ _ k => x_iadd dX10_readsStep_182 g233 k) ?_
                  refine Xi.up (pc' := 186) (fun _ _ k => x_putIK hK199 lf10_51 rfl rfl (Or.inl rfl) dX10_readsStep_183 h0.1 k) ?_
                  have hK234 := KW.sI hK199 2230 2 ((mI M197 2230 2) + 2)
                  refine Xi.up (pc' := 187) (fun _ _ k => x_aload_n dX10_readsStep_186 rfl rfl k) ?_
                  refine Xi.up (pc' := 189) (fun _ _ k => x_bipush dX10_readsStep_187 (show inR 40 from ⟨by decide, by decide⟩) (by decide) k) ?_
                  refine Xi.up (pc' := 191) (fun _ _ k => x_bipush dX10_readsStep_189 (show inR 41 from ⟨by decide, by decide⟩) (by decide) k) ?_
                  obtain ⟨x236, M235, hc238, hK237, h⟩ := h
                  refine Xi.up (pc' := 194) (st' := [zi x236]) (fun _ _ k => x_callVK (ci := 10) (as := [zi 40, zi 41]) (st := []) hK234 k10_readsBrackets lm10_115 dX10_readsStep_191 rfl (by decide) (zs8 rfl) h0.1 ⟨_, _, rfl⟩ hc238 k) ?_
                  refine Xi.up (pc' := 195) (L' := [some (zr 2230), some (zi x4), some (zi x236)]) (fun _ _ k => x_istore_n dX10_readsStep_194 rfl (by decide) rfl k) ?_
                  refine Xi.up (pc' := 196) (fun _ _ k => x_aload_n dX10_readsStep_195 rfl rfl k) ?_
                  refine Xi.up (pc' := 198) (fun _ _ k => x_bipush dX10_readsStep_196 (show inR 16 from ⟨by decide, by decide⟩) (by decide) k) ?_
                  refine Xi.up (pc' := 199) (fun _ _ k => x_iload_n dX10_readsStep_198 rfl rfl k) ?_
                  refine Xi.up (pc' := 201) (fun _ _ k => x_bipush dX10_readsStep_199 (show inR 48 from ⟨by decide, by decide⟩) (by decide) k) ?_
                  obtain ⟨g239, h⟩ := h
                  refine Xi.up (pc' := 202) (fun _ _ k => x_isub dX10_readsStep_201 g239 k) ?_
                  refine Xi.up (pc' := 203) (fun _ _ k => x_iload_n dX10_readsStep_202 rfl rfl k) ?_
                  refine Xi.up (pc' := 204) (fun _ _ k => x_iconst dX10_readsStep_203 (show inR 0 from ⟨by decide, by decide⟩) k) ?_
                  obtain ⟨x241, M240, hc243, hK242, h⟩ := h
                  refine Xi.up (pc' := 207) (st' := [zi x241]) (fun _ _ k => x_callVK (ci := 10) (as := [zi 16, zi (x4 - 48), zi x236, zi 0]) (st := []) hK237 k10_writes lm10_87 dX10_readsStep_204 rfl (by decide) (zs8 rfl) h0.1 ⟨_, _, rfl⟩ hc243 k) ?_
                  exact Xi.ret ⟨dX10_readsStep_207, Or.inl rfl⟩ h
            · have h := h.2 c
              refine Xi.up (pc' := 143) (st' := [zi 0]) (fun _ _ k => x_in0 (st := []) lm10_43 dX10_readsStep_140 (zs8 rfl) c k) ?_
              refine Xi.br (tgt := 208) (pc' := 146) ((0 : Int) = 0) (fun _ _ kt kf => x_if_eq dX10_readsStep_143 rfl kt kf) (fun _ => ?_) (fun c => absurd (by decide) c)
              refine Xi.up (pc' := 209) (fun _ _ k => x_iload_n dX10_readsStep_208 rfl rfl k) ?_
              by_cases c0 : x4 = 33
              · refine Xi.up (pc' := 301) (fun _ _ k => x_lookup dX10_readsStep_209 rfl (off := 92) (by rw [c0]; rfl) rfl k) ?_
                have h := h.1 c0
                refine Xi.up (pc' := 302) (fun _ _ k => x_aload_n dX10_readsStep_301 rfl rfl k) ?_
                refine Xi.up (pc' := 303) (fun _ _ k => x_dupR dX10_readsStep_302 k) ?_
                refine Xi.up (pc' := 306) (fun _ _ k => x_getIK hK157 lf10_51 rfl dX10_readsStep_303 h0.1 k) ?_
                refine Xi.up (pc' := 307) (fun _ _ k => x_iconst dX10_readsStep_306 (show inR 1 from ⟨by decide, by decide⟩) k) ?_
                obtain ⟨g244, h⟩ := h
                refine Xi.up (pc' := 308) (fun _ _ k => x_iadd dX10_readsStep_307 g244 k) ?_
                refine Xi.up (pc' := 311) (fun _ _ k => x_putIK hK157 lf10_51 rfl rfl (Or.inl rfl) dX10_readsStep_308 h0.1 k) ?_
                have hK245 := KW.sI hK157 2230 2 ((mI M155 2230 2) + 1)
                refine Xi.up (pc' := 312) (fun _ _ k => x_aload_n dX10_readsStep_311 rfl rfl k) ?_
                refine Xi.up (pc' := 314) (fun _ _ k => x_bipush dX10_readsStep_312 (show inR 15 from ⟨by decide, by decide⟩) (by decide) k) ?_
                refine Xi.up (pc' := 315) (fun _ _ k => x_iconst dX10_readsStep_314 (show inR 0 from ⟨by decide, by decide⟩) k) ?_
                refine Xi.up (pc' := 316) (fun _ _ k => x_iconst dX10_readsStep_315 (show inR 0 from ⟨by decide, by decide⟩) k) ?_
                refine Xi.up (pc' := 317) (fun _ _ k => x_iconst dX10_readsStep_316 (show inR 0 from ⟨by decide, by decide⟩) k) ?_
                obtain ⟨x247, M246, hc249, hK248, h⟩ := h
                refine Xi.up (pc' := 320) (st' := [zi x247]) (fun _ _ k => x_callVK (ci := 10) (as := [zi 15, zi 0, zi 0, zi 0]) (st := []) hK245 k10_writes lm10_87 dX10_readsStep_317 rfl (by decide) (zs8 rfl) h0.1 ⟨_, _, rfl⟩ hc249 k) ?_
                exact Xi.ret ⟨dX10_readsStep_320, Or.inl rfl⟩ h
              · skip
                by_cases c1 : x4 = 40
                · refine Xi.up (pc' := 252) (fun _ _ k => x_lookup dX10_readsStep_209 rfl (off := 43) (by rw [c1]; rfl) rfl k) ?_
                  have h := h.2.1 c1
                  refine Xi.up (pc' := 253) (fun _ _ k => x_aload_n dX10_readsStep_252 rfl rfl k) ?_
                  obtain ⟨x251, M250, hc253, hK252, h⟩ := h
                  refine Xi.up (pc' := 256) (st' := [zi x251]) (fun _ _ k => x_callVK (ci := 10) (as := []) (st := []) hK157 k10_readsWays lm10_119 dX10_readsStep_253 rfl (by decide) (zs8 rfl) h0.1 ⟨_, _, rfl⟩ hc253 k) ?_
                  exact Xi.ret ⟨dX10_readsStep_256, Or.inl rfl⟩ h
                · skip
                  by_cases c2 : x4 = 91
                  · refine Xi.up (pc' := 257) (fun _ _ k => x_lookup dX10_readsStep_209 rfl (off := 48) (by rw [c2]; rfl) rfl k) ?_
                    have h := h.2.2.1 c2
                    refine Xi.up (pc' := 258) (fun _ _ k => x_aload_n dX10_readsStep_257 rfl rfl k) ?_
                    refine Xi.up (pc' := 260) (fun _ _ k => x_bipush dX10_readsStep_258 (show inR 13 from ⟨by decide, by decide⟩) (by decide) k) ?_
                    refine Xi.up (pc' := 261) (fun _ _ k => x_aload_n dX10_readsStep_260 rfl rfl k) ?_
                    refine Xi.up (pc' := 263) (fun _ _ k => x_bipush dX10_readsStep_261 (show inR 91 from ⟨by decide, by decide⟩) (by decide) k) ?_
                    refine Xi.up (pc' := 265) (fun _ _ k => x_bipush dX10_readsStep_263 (show inR 93 from ⟨by decide, by decide⟩) (by decide) k) ?_
                    obtain ⟨x255, M254, hc257, hK256, h⟩ := h
                    refine Xi.up (pc' := 268) (st' := [zi x255, zi 13, zr 2230]) (fun _ _ k => x_callVK (ci := 10) (as := [zi 91, zi 93]) (st := [zi 13, zr 2230]) hK157 k10_readsBrackets lm10_115 dX10_readsStep_265 rfl (by decide) (zs8 rfl) h0.1 ⟨_, _, rfl⟩ hc257 k) ?_
                    refine Xi.up (pc' := 269) (fun _ _ k => x_iconst dX10_readsStep_268 (show inR 0 from ⟨by decide, by decide⟩) k) ?_
                    refine Xi.up (pc' := 270) (fun _ _ k => x_iconst dX10_readsStep_269 (show inR 0 from ⟨by decide, by decide⟩) k) ?_
                    obtain ⟨x259, M258, hc261, hK260, h⟩ := h
                    refine Xi.up (pc' := 273) (st' := [zi x259]) (fun _ _ k => x_callVK (ci := 10) (as := [zi 13, zi x255, zi 0, zi 0]) (st := []) hK256 k10_writes lm10_87 dX10_readsStep_270 rfl (by decide) (zs8 rfl) h0.1 ⟨_, _, rfl⟩ hc261 k) ?_
                    exact Xi.ret ⟨dX10_readsStep_273, Or.inl rfl⟩ h
                  · skip
                    by_cases c3 : x4 = 126
                    · refine Xi.up (pc' := 274) (fun _ _ k => x_lookup dX10_readsStep_209 rfl (off := 65) (by rw [c3]; rfl) rfl k) ?_
                      have h := h.2.2.2.1 c3
                      refine Xi.up (pc' := 275) (fun _ _ k => x_aload_n dX10_readsStep_274 rfl rfl k) ?_
                      refine Xi.up (pc' := 276) (fun _ _ k => x_dupR dX10_readsStep_275 k) ?_
                      refine Xi.up (pc' := 279) (fun _ _ k => x_getIK hK157 lf10_51 rfl dX10_readsStep_276 h0.1 k) ?_
                      refine Xi.up (pc' := 280) (fun _ _ k => x_iconst dX10_readsStep_279 (show inR 1 from ⟨by decide, by decide⟩) k) ?_
                      obtain ⟨g262, h⟩ := h
                      refine Xi.up (pc' := 281) (fun _ _ k => x_iadd dX10_readsStep_280 g262 k) ?_
                      refine Xi.up (pc' := 284) (fun _ _ k => x_putIK hK157 lf10_51 rfl rfl (Or.inl rfl) dX10_readsStep_281 h0.1 k) ?_
                      have hK263 := KW.sI hK157 2230 2 ((mI M155 2230 2) + 1)
                      refine Xi.up (pc' := 285) (fun _ _ k => x_aload_n dX10_readsStep_284 rfl rfl k) ?_
                      refine Xi.up (pc' := 287) (fun _ _ k => x_bipush dX10_readsStep_285 (show inR 14 from ⟨by decide, by decide⟩) (by decide) k) ?_
                      refine Xi.up (pc' := 288) (fun _ _ k => x_aload_n dX10_readsStep_287 rfl rfl k) ?_
                      refine Xi.up (pc' := 290) (fun _ _ k => x_bipush dX10_readsStep_288 (show inR 91 from ⟨by decide, by decide⟩) (by decide) k) ?_
                      refine Xi.up (pc' := 292) (fun _ _ k => x_bipush dX10_readsStep_290 (show inR 93 from ⟨by decide, by decide⟩) (by decide) k) ?_
                      obtain ⟨x265, M264, hc267, hK266, h⟩ := h
                      refine Xi.up (pc' := 295) (st' := [zi x265, zi 14, zr 2230]) (fun _ _ k => x_callVK (ci := 10) (as := [zi 91, zi 93]) (st := [zi 14, zr 2230]) hK263 k10_readsBrackets lm10_115 dX10_readsStep_292 rfl (by decide) (zs8 rfl) h0.1 ⟨_, _, rfl⟩ hc267 k) ?_
                      refine Xi.up (pc' := 296) (fun _ _ k => x_iconst dX10_readsStep_295 (show inR 0 from ⟨by decide, by decide⟩) k) ?_
                      refine Xi.up (pc' := 297) (fun _ _ k => x_iconst dX10_readsStep_296 (show inR 0 from ⟨by decide, by decide⟩) k) ?_
                      obtain ⟨x269, M268, hc271, hK270, h⟩ := h
                      refine Xi.up (pc' := 300) (st' := [zi x269]) (fun _ _ k => x_callVK (ci := 10) (as := [zi 14, zi x265, zi 0, zi 0]) (st := []) hK266 k10_writes lm10_87 dX10_readsStep_297 rfl (by decide) (zs8 rfl) h0.1 ⟨_, _, rfl⟩ hc271 k) ?_
                      exact Xi.ret ⟨dX10_readsStep_300, Or.inl rfl⟩ h
                    · skip
                      refine Xi.up (pc' := 321) (fun _ _ k => x_lookup dX10_readsStep_209 rfl (off := 112) (by simp [Op.lookupswitch.offset_cons, Op.lookupswitch.offset_nil, Ne.symm c0, c0, Ne.symm c1, c1, Ne.symm c2, c2, Ne.symm c3, c3]) rfl k) ?_
                      have h := h.2.2.2.2 ⟨c0, c1, c2, c3⟩
                      refine Xi.up (pc' := 322) (fun _ _ k => x_aload_n dX10_readsStep_321 rfl rfl k) ?_
                      obtain ⟨x273, M272, hc275, hK274, h⟩ := h
                      refine Xi.up (pc' := 325) (st' := [zi x273]) (fun _ _ k => x_callVK (ci := 10) (as := []) (st := []) hK157 k10_readsTest lm10_122 dX10_readsStep_322 rfl (by decide) (zs8 rfl) h0.1 ⟨_, _, rfl⟩ hc275 k) ?_
                      exact Xi.ret ⟨dX10_readsStep_325, Or.inl rfl⟩ h
          · have h := h.2 c
            refine Xi.up (pc' := 81) (fun _ _ k => x_aload_n dX10_readsStep_80 rfl rfl k) ?_
            refine Xi.up (pc' := 82) (fun _ _ k => x_dupR dX10_readsStep_81 k) ?_
            refine Xi.up (pc' := 85) (fun _ _ k => x_getIK hK157 lf10_51 rfl dX10_readsStep_82 h0.1 k) ?_
            refine Xi.up (pc' := 86) (fun _ _ k => x_iconst dX10_readsStep_85 (show inR 2 from ⟨by decide, by decide⟩) k) ?_
            obtain ⟨g276, h⟩ := h
            refine Xi.up (pc' := 87) (fun _ _ k => x_iadd dX10_readsStep_86 g276 k) ?_
            refine Xi.up (pc' := 90) (fun _ _ k => x_putIK hK157 lf10_51 rfl rfl (Or.inl rfl) dX10_readsStep_87 h0.1 k) ?_
            have hK277 := KW.sI hK157 2230 2 ((mI M155 2230 2) + 2)
            refine Xi.up (pc' := 91) (fun _ _ k => x_aload_n dX10_readsStep_90 rfl rfl k) ?_
            refine Xi.up (pc' := 92) (fun _ _ k => x_aload_n dX10_readsStep_91 rfl rfl k) ?_
            refine Xi.up (pc' := 95) (fun _ _ k => x_getIK hK277 lf10_51 rfl dX10_readsStep_92 h0.1 k) ?_
            refine Xi.up (pc' := 96) (fun _ _ k => x_iconst dX10_readsStep_95 (show inR 1 from ⟨by decide, by decide⟩) k) ?_
            obtain ⟨g278, h⟩ := h
            refine Xi.up (pc' := 97) (fun _ _ k => x_isub dX10_readsStep_96 g278 k) ?_
            obtain ⟨x280, M279, hc282, hK281, h⟩ := h
            refine Xi.up (pc' := 100) (st' := [zi x280]) (fun _ _ k => x_callVK (ci := 10) (as := [zi ((mI (sI M155 2230 2 ((mI M155 2230 2) + 2)) 2230 2) - 1)]) (st := []) hK277 k10_byteAt lm10_54 dX10_readsStep_97 rfl (by decide) (zs8 rfl) h0.1 ⟨_, _, rfl⟩ hc282 k) ?_
            refine Xi.up (pc' := 102) (fun _ _ k => x_bipush dX10_readsStep_100 (show inR 58 from ⟨by decide, by decide⟩) (by decide) k) ?_
            refine Xi.br (tgt := 123) (pc' := 105) (x280 ≠ 58) (fun _ _ kt kf => x_icmp_ne dX10_readsStep_102 rfl kt kf) (fun c => ?_) (fun c => ?_)
            · have h := h.1 c
              refine Xi.up (pc' := 124) (fun _ _ k => x_aload_n dX10_readsStep_123 rfl rfl k) ?_
              refine Xi.up (pc' := 125) (fun _ _ k => x_iload_n dX10_readsStep_124 rfl rfl k) ?_
              refine Xi.up (pc' := 127) (fun _ _ k => x_bipush dX10_readsStep_125 (show inR 97 from ⟨by decide, by decide⟩) (by decide) k) ?_
              obtain ⟨g283, h⟩ := h
              refine Xi.up (pc' := 128) (fun _ _ k => x_isub dX10_readsStep_127 g283 k) ?_
              obtain ⟨x285, M284, hc287, hK286, h⟩ := h
              refine Xi.up (pc' := 131) (st' := [zi x285]) (fun _ _ k => x_callVK (ci := 10) (as := [zi (x4 - 97)]) (st := []) hK281 k10_readsChoose lm10_110 dX10_readsStep_128 rfl (by decide) (zs8 rfl) h0.1 ⟨_, _, rfl⟩ hc287 k) ?_
              exact Xi.ret ⟨dX10_readsStep_131, Or.inl rfl⟩ h
            · have h := h.2 c
              refine Xi.up (pc' := 106) (fun _ _ k => x_aload_n dX10_readsStep_105 rfl rfl k) ?_
              refine Xi.up (pc' := 108) (fun _ _ k => x_bipush dX10_readsStep_106 (show inR 7 from ⟨by decide, by decide⟩) (by decide) k) ?_
              refine Xi.up (pc' := 109) (fun _ _ k => x_iload_n dX10_readsStep_108 rfl rfl k) ?_
              refine Xi.up (pc' := 111) (fun _ _ k => x_bipush dX10_readsStep_109 (show inR 97 from ⟨by decide, by decide⟩) (by decide) k) ?_
              obtain ⟨g288, h⟩ := h
              refine Xi.up (pc' := 112) (fun _ _ k => x_isub dX10_readsStep_111 g288 k) ?_
              refine Xi.up (pc' := 113) (fun _ _ k => x_aload_n dX10_readsStep_112 rfl rfl k) ?_
              obtain ⟨x290, M289, hc292, hK291, h⟩ := h
              refine Xi.up (pc' := 116) (st' := [zi x290, zi (x4 - 97), zi 7, zr 2230]) (fun _ _ k => x_callVK (ci := 10) (as := []) (st := [zi (x4 - 97), zi 7, zr 2230]) hK281 k10_readsSum lm10_107 dX10_readsStep_113 rfl (by decide) (zs8 rfl) h0.1 ⟨_, _, rfl⟩ hc292 k) ?_
              refine Xi.up (pc' := 117) (fun _ _ k => x_iconst dX10_readsStep_116 (show inR 0 from ⟨by decide, by decide⟩) k) ?_
              obtain ⟨x294, M293, hc296, hK295, h⟩ := h
              refine Xi.up (pc' := 120) (st' := [zi x294]) (fun _ _ k => x_callVK (ci := 10) (as := [zi 7, zi (x4 - 97), zi x290, zi 0]) (st := []) hK291 k10_writes lm10_87 dX10_readsStep_117 rfl (by decide) (zs8 rfl) h0.1 ⟨_, _, rfl⟩ hc296 k) ?_
              refine Xi.up (pc' := 131) (fun _ _ k => x_goto dX10_readsStep_120 rfl k) ?_
              exact Xi.ret ⟨dX10_readsStep_131, Or.inl rfl⟩ h
    · have h := h.2 c
      refine Xi.up (pc' := 19) (fun _ _ k => x_aload_n dX10_readsStep_18 rfl rfl k) ?_
      refine Xi.up (pc' := 20) (fun _ _ k => x_aload_n dX10_readsStep_19 rfl rfl k) ?_
      refine Xi.up (pc' := 23) (fun _ _ k => x_getIK hK lf10_51 rfl dX10_readsStep_20 h0.1 k) ?_
      obtain ⟨M297, hc299, hK298, h⟩ := h
      refine Xi.up (pc' := 26) (st' := []) (fun _ _ k => x_callVK (ci := 10) (as := [zi (mI M 2230 2)]) (st := []) hK k10_wrong lm10_69 dX10_readsStep_23 rfl (by decide) (zs8 rfl) h0.1 ⟨_, _, rfl⟩ hc299 k) ?_
      refine Xi.up (pc' := 27) (fun _ _ k => x_iconst dX10_readsStep_26 (show inR 0 from ⟨by decide, by decide⟩) k) ?_
      exact Xi.ret ⟨dX10_readsStep_27, Or.inl rfl⟩ h
  · have h := h.2 c
    refine Xi.up (pc' := 8) (fun _ _ k => x_iconst dX10_readsStep_7 (show inR 0 from ⟨by decide, by decide⟩) k) ?_
    exact Xi.ret ⟨dX10_readsStep_8, Or.inl rfl⟩ h
set_option maxHeartbeats 4000000 in
set_option maxRecDepth 20000 in
theorem B10_readsTest {d : Nat} {K M : ZMem} {Q : Int → ZMem → Prop}  (hK : KW K M) (h0 : ModelAt K 2230) (h : Ci d q10_readsSum [zr 2230] M (fun x2 M1 => KW K M1 ∧ Ci d q10_peek [zr 2230] M1 (fun x6 M5 => KW K M5 ∧ ((x6 = 60 → ((0 ≤ (mI M5 2230 3) → ((inR ((mI M5 2230 2) + 0)) ∧ Ci d q10_readsSum [zr 2230] (sI M5 2230 2 ((mI M5 2230 2) + 0)) (fun x12 M11 => KW K M11 ∧ Ci d q10_writes [zr 2230, zi 10, zi x2, zi x12, zi x6] M11 (fun x16 M15 => KW K M15 ∧ Q x16 M15)))) ∧ (¬ (0 ≤ (mI M5 2230 3)) → ((inR ((mI M5 2230 2) + 1)) ∧ Ci d q10_readsSum [zr 2230] (sI M5 2230 2 ((mI M5 2230 2) + 1)) (fun x22 M21 => KW K M21 ∧ Ci d q10_writes [zr 2230, zi 10, zi x2, zi x22, zi x6] M21 (fun x26 M25 => KW K M25 ∧ Q x26 M25)))))) ∧ (¬ (x6 = 60) → ((x6 = 61 → ((0 ≤ (mI M5 2230 3) → ((inR ((mI M5 2230 2) + 0)) ∧ Ci d q10_readsSum [zr 2230] (sI M5 2230 2 ((mI M5 2230 2) + 0)) (fun x32 M31 => KW K M31 ∧ Ci d q10_writes [zr 2230, zi 10, zi x2, zi x32, zi x6] M31 (fun x36 M35 => KW K M35 ∧ Q x36 M35)))) ∧ (¬ (0 ≤ (mI M5 2230 3)) → ((inR ((mI M5 2230 2) + 1)) ∧ Ci d q10_readsSum [zr 2230] (sI M5 2230 2 ((mI M5 2230 2) + 1)) (fun x42 M41 => KW K M41 ∧ Ci d q10_writes [zr 2230, zi 10, zi x2, zi x42, zi x6] M41 (fun x46 M45 => KW K M45 ∧ Q x46 M45)))))) ∧ (¬ (x6 = 61) → ((x6 = 62 → ((0 ≤ (mI M5 2230 3) → ((inR ((mI M5 2230 2) + 0)) ∧ Ci d q10_readsSum [zr 2230] (sI M5 2230 2 ((mI M5 2230 2) + 0)) (fun x52 M51 => KW K M51 ∧ Ci d q10_writes [zr 2230, zi 10, zi x2, zi x52, zi x6] M51 (fun x56 M55 => KW K M55 ∧ Q x56 M55)))) ∧ (¬ (0 ≤ (mI M5 2230 3)) → ((inR ((mI M5 2230 2) + 1)) ∧ Ci d q10_readsSum [zr 2230] (sI M5 2230 2 ((mI M5 2230 2) + 1)) (fun x62 M61 => KW K M61 ∧ Ci d q10_writes [zr 2230, zi 10, zi x2, zi x62, zi x6] M61 (fun x66 M65 => KW K M65 ∧ Q x66 M65)))))) ∧ (¬ (x6 = 62) → ((x6 = 35 → ((0 ≤ (mI M5 2230 3) → ((inR ((mI M5 2230 2) + 0)) ∧ Ci d q10_readsSum [zr 2230] (sI M5 2230 2 ((mI M5 2230 2) + 0)) (fun x72 M71 => KW K M71 ∧ Ci d q10_writes [zr 2230, zi 10, zi x2, zi x72, zi x6] M71 (fun x76 M75 => KW K M75 ∧ Q x76 M75)))) ∧ (¬ (0 ≤ (mI M5 2230 3)) → ((inR ((mI M5 2230 2) + 1)) ∧ Ci d q10_readsSum [zr 2230] (sI M5 2230 2 ((mI M5 2230 2) + 1)) (fun x82 M81 => KW K M81 ∧ Ci d q10_writes [zr 2230, zi 10, zi x2, zi x82, zi x6] M81 (fun x86 M85 => KW K M85 ∧ Q x86 M85)))))) ∧ (¬ (x6 = 35) → (Cv d q10_wrong [zr 2230, zi (mI M5 2230 2)] M5 (fun M89 => KW K M89 ∧ Q 0 M89))))))))))))) : Ci (d + 1) q10_readsTest [zr 2230] M Q := by
  refine Ci.of rfl rfl (Nat.le_of_ble_eq_true rfl) (fun w hw x e => by subst e; simp at hw) (L := [some (zr 2230), none, none, none]) rfl ?_
  refine Xi.up (pc' := 1) (fun _ _ k => x_aload_n dX10_readsTest_0 rfl rfl k) ?_
  obtain ⟨x2, M1, hc4, hK3, h⟩ := h
  refine Xi.up (pc' := 4) (st' := [zi x2]) (fun _ _ k => x_callVK (ci := 10) (as := []) (st := []) hK k10_readsSum lm10_107 dX10_readsTest_1 rfl (by decide) (zs8 rfl) h0.1 ⟨_, _, rfl⟩ hc4 k) ?_
  refine Xi.up (pc' := 5) (L' := [some (zr 2230), some (zi x2), none, none]) (fun _ _ k => x_istore_n dX10_readsTest_4 rfl (by decide) rfl k) ?_
  refine Xi.up (pc' := 6) (fun _ _ k => x_aload_n dX10_readsTest_5 rfl rfl k) ?_
  obtain ⟨x6, M5, hc8, hK7, h⟩ := h
  refine Xi.up (pc' := 9) (st' := [zi x6]) (fun _ _ k => x_callVK (ci := 10) (as := []) (st := []) hK3 k10_peek lm10_61 dX10_readsTest_6 rfl (by decide) (zs8 rfl) h0.1 ⟨_, _, rfl⟩ hc8 k) ?_
  refine Xi.up (pc' := 10) (L' := [some (zr 2230), some (zi x2), some (zi x6), none]) (fun _ _ k => x_istore_n dX10_readsTest_9 rfl (by decide) rfl k) ?_
  refine Xi.up (pc' := 11) (fun _ _ k => x_iload_n dX10_readsTest_10 rfl rfl k) ?_
  refine Xi.up (pc' := 13) (fun _ _ k => x_bipush dX10_readsTest_11 (show inR 60 from ⟨by decide, by decide⟩) (by decide) k) ?_
  refine Xi.br (tgt := 44) (pc' := 16) (x6 = 60) (fun _ _ kt kf => x_icmp_eq dX10_readsTest_13 rfl kt kf) (fun c => ?_) (fun c => ?_)
  · have h := h.1 c
    refine Xi.up (pc' := 45) (fun _ _ k => x_aload_n dX10_readsTest_44 rfl rfl k) ?_
    refine Xi.up (pc' := 46) (fun _ _ k => x_dupR dX10_readsTest_45 k) ?_
    refine Xi.up (pc' := 49) (fun _ _ k => x_getIK hK7 lf10_51 rfl dX10_readsTest_46 h0.1 k) ?_
    refine Xi.up (pc' := 50) (fun _ _ k => x_aload_n dX10_readsTest_49 rfl rfl k) ?_
    refine Xi.up (pc' := 53) (fun _ _ k => x_getIK hK7 lf10_58 rfl dX10_readsTest_50 h0.1 k) ?_
    refine Xi.br (tgt := 60) (pc' := 56) (0 ≤ (mI M5 2230 3)) (fun _ _ kt kf => x_if_ge dX10_readsTest_53 rfl kt kf) (fun c => ?_) (fun c => ?_)
    · have h := h.1 c
      refine Xi.up (pc' := 61) (fun _ _ k => x_iconst dX10_readsTest_60 (show inR 0 from ⟨by decide, by decide⟩) k) ?_
      obtain ⟨g9, h⟩ := h
      refine Xi.up (pc' := 62) (fun _ _ k => x_iadd dX10_readsTest_61 g9 k) ?_
      refine Xi.up (pc' := 65) (fun _ _ k => x_putIK hK7 lf10_51 rfl rfl (Or.inl rfl) dX10_readsTest_62 h0.1 k) ?_
      have hK10 := KW.sI hK7 2230 2 ((mI M5 2230 2) + 0)
      refine Xi.up (pc' := 66) (fun _ _ k => x_aload_n dX10_readsTest_65 rfl rfl k) ?_
      obtain ⟨x12, M11, hc14, hK13, h⟩ := h
      refine Xi.up (pc' := 69) (st' := [zi x12]) (fun _ _ k => x_callVK (ci := 10) (as := []) (st := []) hK10 k10_readsSum lm10_107 dX10_readsTest_66 rfl (by decide) (zs8 rfl) h0.1 ⟨_, _, rfl⟩ hc14 k) ?_
      refine Xi.up (pc' := 70) (L' := [some (zr 2230), some (zi x2), some (zi x6), some (zi x12)]) (fun _ _ k => x_istore_n dX10_readsTest_69 rfl (by decide) rfl k) ?_
      refine Xi.up (pc' := 71) (fun _ _ k => x_aload_n dX10_readsTest_70 rfl rfl k) ?_
      refine Xi.up (pc' := 73) (fun _ _ k => x_bipush dX10_readsTest_71 (show inR 10 from ⟨by decide, by decide⟩) (by decide) k) ?_
      refine Xi.up (pc' := 74) (fun _ _ k => x_iload_n dX10_readsTest_73 rfl rfl k) ?_
      refine Xi.up (pc' := 75) (fun _ _ k => x_iload_n dX10_readsTest_74 rfl rfl k) ?_
      refine Xi.up (pc' := 76) (fun _ _ k => x_iload_n dX10_readsTest_75 rfl rfl k) ?_
      obtain ⟨x16, M15, hc18, hK17, h⟩ := h
      refine Xi.up (pc' := 79) (st' := [zi x16]) (fun _ _ k => x_callVK (ci := 10) (as := [zi 10, zi x2, zi x12, zi x6]) (st := []) hK13 k10_writes lm10_87 dX10_readsTest_76 rfl (by decide) (zs8 rfl) h0.1 ⟨_, _, rfl⟩ hc18 k) ?_
      exact Xi.ret ⟨dX10_readsTest_79, Or.inl rfl⟩ h
    · have h := h.2 c
      refine Xi.up (pc' := 57) (fun _ _ k => x_iconst dX10_readsTest_56 (show inR 1 from ⟨by decide, by decide⟩) k) ?_
      refine Xi.up (pc' := 61) (fun _ _ k => x_goto dX10_readsTest_57 rfl k) ?_
      obtain ⟨g19, h⟩ := h
      refine Xi.up (pc' := 62) (fun _ _ k => x_iadd dX10_readsTest_61 g19 k) ?_
      refine Xi.up (pc' := 65) (fun _ _ k => x_putIK hK7 lf10_51 rfl rfl (Or.inl rfl) dX10_readsTest_62 h0.1 k) ?_
      have hK20 := KW.sI hK7 2230 2 ((mI M5 2230 2) + 1)
      refine Xi.up (pc' := 66) (fun _ _ k => x_aload_n dX10_readsTest_65 rfl rfl k) ?_
      obtain ⟨x22, M21, hc24, hK23, h⟩ := h
      refine Xi.up (pc' := 69) (st' := [zi x22]) (fun _ _ k => x_callVK (ci := 10) (as := []) (st := []) hK20 k10_readsSum lm10_107 dX10_readsTest_66 rfl (by decide) (zs8 rfl) h0.1 ⟨_, _, rfl⟩ hc24 k) ?_
      refine Xi.up (pc' := 70) (L' := [some (zr 2230), some (zi x2), some (zi x6), some (zi x22)]) (fun _ _ k => x_istore_n dX10_readsTest_69 rfl (by decide) rfl k) ?_
      refine Xi.up (pc' := 71) (fun _ _ k => x_aload_n dX10_readsTest_70 rfl rfl k) ?_
      refine Xi.up (pc' := 73) (fun _ _ k => x_bipush dX10_readsTest_71 (show inR 10 from ⟨by decide, by decide⟩) (by decide) k) ?_
      refine Xi.up (pc' := 74) (fun _ _ k => x_iload_n dX10_readsTest_73 rfl rfl k) ?_
      refine Xi.up (pc' := 75) (fun _ _ k => x_iload_n dX10_readsTest_74 rfl rfl k) ?_
      refine Xi.up (pc' := 76) (fun _ _ k => x_iload_n dX10_readsTest_75 rfl rfl k) ?_
      obtain ⟨x26, M25, hc28, hK27, h⟩ := h
      refine Xi.up (pc' := 79) (st' := [zi x26]) (fun _ _ k => x_callVK (ci := 10) (as := [zi 10, zi x2, zi x22, zi x6]) (st := []) hK23 k10_writes lm10_87 dX10_readsTest_76 rfl (by decide) (zs8 rfl) h0.1 ⟨_, _, rfl⟩ hc28 k) ?_
      exact Xi.ret ⟨dX10_readsTest_79, Or.inl rfl⟩ h
  · have h := h.2 c
    refine Xi.up (pc' := 17) (fun _ _ k => x_iload_n dX10_readsTest_16 rfl rfl k) ?_
    refine Xi.up (pc' := 19) (fun _ _ k => x_bipush dX10_readsTest_17 (show inR 61 from ⟨by decide, by decide⟩) (by decide) k) ?_
    refine Xi.br (tgt := 44) (pc' := 22) (x6 = 61) (fun _ _ kt kf => x_icmp_eq dX10_readsTest_19 rfl kt kf) (fun c => ?_) (fun c => ?_)
    · have h := h.1 c
      refine Xi.up (pc' := 45) (fun _ _ k => x_aload_n dX10_readsTest_44 rfl rfl k) ?_
      refine Xi.up (pc' := 46) (fun _ _ k => x_dupR dX10_readsTest_45 k) ?_
      refine Xi.up (pc' := 49) (fun _ _ k => x_getIK hK7 lf10_51 rfl dX10_readsTest_46 h0.1 k) ?_
      refine Xi.up (pc' := 50) (fun _ _ k => x_aload_n dX10_readsTest_49 rfl rfl k) ?_
      refine Xi.up (pc' := 53) (fun _ _ k => x_getIK hK7 lf10_58 rfl dX10_readsTest_50 h0.1 k) ?_
      refine Xi.br (tgt := 60) (pc' := 56) (0 ≤ (mI M5 2230 3)) (fun _ _ kt kf => x_if_ge dX10_readsTest_53 rfl kt kf) (fun c => ?_) (fun c => ?_)
      · have h := h.1 c
        refine Xi.up (pc' := 61) (fun _ _ k => x_iconst dX10_readsTest_60 (show inR 0 from ⟨by decide, by decide⟩) k) ?_
        obtain ⟨g29, h⟩ := h
        refine Xi.up (pc' := 62) (fun _ _ k => x_iadd dX10_readsTest_61 g29 k) ?_
        refine Xi.up (pc' := 65) (fun _ _ k => x_putIK hK7 lf10_51 rfl rfl (Or.inl rfl) dX10_readsTest_62 h0.1 k) ?_
        have hK30 := KW.sI hK7 2230 2 ((mI M5 2230 2) + 0)
        refine Xi.up (pc' := 66) (fun _ _ k => x_aload_n dX10_readsTest_65 rfl rfl k) ?_
        obtain ⟨x32, M31, hc34, hK33, h⟩ := h
        refine Xi.up (pc' := 69) (st' := [zi x32]) (fun _ _ k => x_callVK (ci := 10) (as := []) (st := []) hK30 k10_readsSum lm10_107 dX10_readsTest_66 rfl (by decide) (zs8 rfl) h0.1 ⟨_, _, rfl⟩ hc34 k) ?_
        refine Xi.up (pc' := 70) (L' := [some (zr 2230), some (zi x2), some (zi x6), some (zi x32)]) (fun _ _ k => x_istore_n dX10_readsTest_69 rfl (by decide) rfl k) ?_
        refine Xi.up (pc' := 71) (fun _ _ k => x_aload_n dX10_readsTest_70 rfl rfl k) ?_
        refine Xi.up (pc' := 73) (fun _ _ k => x_bipush dX10_readsTest_71 (show inR 10 from ⟨by decide, by decide⟩) (by decide) k) ?_
        refine Xi.up (pc' := 74) (fun _ _ k => x_iload_n dX10_readsTest_73 rfl rfl k) ?_
        refine Xi.up (pc' := 75) (fun _ _ k => x_iload_n dX10_readsTest_74 rfl rfl k) ?_
        refine Xi.up (pc' := 76) (fun _ _ k => x_iload_n dX10_readsTest_75 rfl rfl k) ?_
        obtain ⟨x36, M35, hc38, hK37, h⟩ := h
        refine Xi.up (pc' := 79) (st' := [zi x36]) (fun _ _ k => x_callVK (ci := 10) (as := [zi 10, zi x2, zi x32, zi x6]) (st := []) hK33 k10_writes lm10_87 dX10_readsTest_76 rfl (by decide) (zs8 rfl) h0.1 ⟨_, _, rfl⟩ hc38 k) ?_
        exact Xi.ret ⟨dX10_readsTest_79, Or.inl rfl⟩ h
      · have h := h.2 c
        refine Xi.up (pc' := 57) (fun _ _ k => x_iconst dX10_readsTest_56 (show inR 1 from ⟨by decide, by decide⟩) k) ?_
        refine Xi.up (pc' := 61) (fun _ _ k => x_goto dX10_readsTest_57 rfl k) ?_
        obtain ⟨g39, h⟩ := h
        refine Xi.up (pc' := 62) (fun _ _ k => x_iadd dX10_readsTest_61 g39 k) ?_
        refine Xi.up (pc' := 65) (fun _ _ k => x_putIK hK7 lf10_51 rfl rfl (Or.inl rfl) dX10_readsTest_62 h0.1 k) ?_
        have hK40 := KW.sI hK7 2230 2 ((mI M5 2230 2) + 1)
        refine Xi.up (pc' := 66) (fun _ _ k => x_aload_n dX10_readsTest_65 rfl rfl k) ?_
        obtain ⟨x42, M41, hc44, hK43, h⟩ := h
        refine Xi.up (pc' := 69) (st' := [zi x42]) (fun _ _ k => x_callVK (ci := 10) (as := []) (st := []) hK40 k10_readsSum lm10_107 dX10_readsTest_66 rfl (by decide) (zs8 rfl) h0.1 ⟨_, _, rfl⟩ hc44 k) ?_
        refine Xi.up (pc' := 70) (L' := [some (zr 2230), some (zi x2), some (zi x6), some (zi x42)]) (fun _ _ k => x_istore_n dX10_readsTest_69 rfl (by decide) rfl k) ?_
        refine Xi.up (pc' := 71) (fun _ _ k => x_aload_n dX10_readsTest_70 rfl rfl k) ?_
        refine Xi.up (pc' := 73) (fun _ _ k => x_bipush dX10_readsTest_71 (show inR 10 from ⟨by decide, by decide⟩) (by decide) k) ?_
        refine Xi.up (pc' := 74) (fun _ _ k => x_iload_n dX10_readsTest_73 rfl rfl k) ?_
        refine Xi.up (pc' := 75) (fun _ _ k => x_iload_n dX10_readsTest_74 rfl rfl k) ?_
        refine Xi.up (pc' := 76) (fun _ _ k => x_iload_n dX10_readsTest_75 rfl rfl k) ?_
        obtain ⟨x46, M45, hc48, hK47, h⟩ := h
        refine Xi.up (pc' := 79) (st' := [zi x46]) (fun _ _ k => x_callVK (ci := 10) (as := [zi 10, zi x2, zi x42, zi x6]) (st := []) hK43 k10_writes lm10_87 dX10_readsTest_76 rfl (by decide) (zs8 rfl) h0.1 ⟨_, _, rfl⟩ hc48 k) ?_
        exact Xi.ret ⟨dX10_readsTest_79, Or.inl rfl⟩ h
    · have h := h.2 c
      refine Xi.up (pc' := 23) (fun _ _ k => x_iload_n dX10_readsTest_22 rfl rfl k) ?_
      refine Xi.up (pc' := 25) (fun _ _ k => x_bipush dX10_readsTest_23 (show inR 62 from ⟨by decide, by decide⟩) (by decide) k) ?_
      refine Xi.br (tgt := 44) (pc' := 28) (x6 = 62) (fun _ _ kt kf => x_icmp_eq dX10_readsTest_25 rfl kt kf) (fun c => ?_) (fun c => ?_)
      · have h := h.1 c
        refine Xi.up (pc' := 45) (fun _ _ k => x_aload_n dX10_readsTest_44 rfl rfl k) ?_
        refine Xi.up (pc' := 46) (fun _ _ k => x_dupR dX10_readsTest_45 k) ?_
        refine Xi.up (pc' := 49) (fun _ _ k => x_getIK hK7 lf10_51 rfl dX10_readsTest_46 h0.1 k) ?_
        refine Xi.up (pc' := 50) (fun _ _ k => x_aload_n dX10_readsTest_49 rfl rfl k) ?_
        refine Xi.up (pc' := 53) (fun _ _ k => x_getIK hK7 lf10_58 rfl dX10_readsTest_50 h0.1 k) ?_
        refine Xi.br (tgt := 60) (pc' := 56) (0 ≤ (mI M5 2230 3)) (fun _ _ kt kf => x_if_ge dX10_readsTest_53 rfl kt kf) (fun c => ?_) (fun c => ?_)
        · have h := h.1 c
          refine Xi.up (pc' := 61) (fun _ _ k => x_iconst dX10_readsTest_60 (show inR 0 from ⟨by decide, by decide⟩) k) ?_
          obtain ⟨g49, h⟩ := h
          refine Xi.up (pc' := 62) (fun _ _ k => x_iadd dX10_readsTest_61 g49 k) ?_
          refine Xi.up (pc' := 65) (fun _ _ k => x_putIK hK7 lf10_51 rfl rfl (Or.inl rfl) dX10_readsTest_62 h0.1 k) ?_
          have hK50 := KW.sI hK7 2230 2 ((mI M5 2230 2) + 0)
          refine Xi.up (pc' := 66) (fun _ _ k => x_aload_n dX10_readsTest_65 rfl rfl k) ?_
          obtain ⟨x52, M51, hc54, hK53, h⟩ := h
          refine Xi.up (pc' := 69) (st' := [zi x52]) (fun _ _ k => x_callVK (ci := 10) (as := []) (st := []) hK50 k10_readsSum lm10_107 dX10_readsTest_66 rfl (by decide) (zs8 rfl) h0.1 ⟨_, _, rfl⟩ hc54 k) ?_
          refine Xi.up (pc' := 70) (L' := [some (zr 2230), some (zi x2), some (zi x6), some (zi x52)]) (fun _ _ k => x_istore_n dX10_readsTest_69 rfl (by decide) rfl k) ?_
          refine Xi.up (pc' := 71) (fun _ _ k => x_aload_n dX10_readsTest_70 rfl rfl k) ?_
          refine Xi.up (pc' := 73) (fun _ _ k => x_bipush dX10_readsTest_71 (show inR 10 from ⟨by decide, by decide⟩) (by decide) k) ?_
          refine Xi.up (pc' := 74) (fun _ _ k => x_iload_n dX10_readsTest_73 rfl rfl k) ?_
          refine Xi.up (pc' := 75) (fun _ _ k => x_iload_n dX10_readsTest_74 rfl rfl k) ?_
          refine Xi.up (pc' := 76) (fun _ _ k => x_iload_n dX10_readsTest_75 rfl rfl k) ?_
          obtain ⟨x56, M55, hc58, hK57, h⟩ := h
          refine Xi.up (pc' := 79) (st' := [zi x56]) (fun _ _ k => x_callVK (ci := 10) (as := [zi 10, zi x2, zi x52, zi x6]) (st := []) hK53 k10_writes lm10_87 dX10_readsTest_76 rfl (by decide) (zs8 rfl) h0.1 ⟨_, _, rfl⟩ hc58 k) ?_
          exact Xi.ret ⟨dX10_readsTest_79, Or.inl rfl⟩ h
        · have h := h.2 c
          refine Xi.up (pc' := 57) (fun _ _ k => x_iconst dX10_readsTest_56 (show inR 1 from ⟨by decide, by decide⟩) k) ?_
          refine Xi.up (pc' := 61) (fun _ _ k => x_goto dX10_readsTest_57 rfl k) ?_
          obtain ⟨g59, h⟩ := h
          refine Xi.up (pc' := 62) (fun _ _ k => x_iadd dX10_readsTest_61 g59 k) ?_
          refine Xi.up (pc' := 65) (fun _ _ k => x_putIK hK7 lf10_51 rfl rfl (Or.inl rfl) dX10_readsTest_62 h0.1 k) ?_
          have hK60 := KW.sI hK7 2230 2 ((mI M5 2230 2) + 1)
          refine Xi.up (pc' := 66) (fun _ _ k => x_aload_n dX10_readsTest_65 rfl rfl k) ?_
          obtain ⟨x62, M61, hc64, hK63, h⟩ := h
          refine Xi.up (pc' := 69) (st' := [zi x62]) (fun _ _ k => x_callVK (ci := 10) (as := []) (st := []) hK60 k10_readsSum lm10_107 dX10_readsTest_66 rfl (by decide) (zs8 rfl) h0.1 ⟨_, _, rfl⟩ hc64 k) ?_
          refine Xi.up (pc' := 70) (L' := [some (zr 2230), some (zi x2), some (zi x6), some (zi x62)]) (fun _ _ k => x_istore_n dX10_readsTest_69 rfl (by decide) rfl k) ?_
          refine Xi.up (pc' := 71) (fun _ _ k => x_aload_n dX10_readsTest_70 rfl rfl k) ?_
          refine Xi.up (pc' := 73) (fun _ _ k => x_bipush dX10_readsTest_71 (show inR 10 from ⟨by decide, by decide⟩) (by decide) k) ?_
          refine Xi.up (pc' := 74) (fun _ _ k => x_iload_n dX10_readsTest_73 rfl rfl k) ?_
          refine Xi.up (pc' := 75) (fun _ _ k => x_iload_n dX10_readsTest_74 rfl rfl k) ?_
          refine Xi.up (pc' := 76) (fun _ _ k => x_iload_n dX10_readsTest_75 rfl rfl k) ?_
          obtain ⟨x66, M65, hc68, hK67, h⟩ := h
          refine Xi.up (pc' := 79) (st' := [zi x66]) (fun _ _ k => x_callVK (ci := 10) (as := [zi 10, zi x2, zi x62, zi x6]) (st := []) hK63 k10_writes lm10_87 dX10_readsTest_76 rfl (by decide) (zs8 rfl) h0.1 ⟨_, _, rfl⟩ hc68 k) ?_
          exact Xi.ret ⟨dX10_readsTest_79, Or.inl rfl⟩ h
      · have h := h.2 c
        refine Xi.up (pc' := 29) (fun _ _ k => x_iload_n dX10_readsTest_28 rfl rfl k) ?_
        refine Xi.up (pc' := 31) (fun _ _ k => x_bipush dX10_readsTest_29 (show inR 35 from ⟨by decide, by decide⟩) (by decide) k) ?_
        refine Xi.br (tgt := 44) (pc' := 34) (x6 = 35) (fun _ _ kt kf => x_icmp_eq dX10_readsTest_31 rfl kt kf) (fun c => ?_) (fun c => ?_)
        · have h := h.1 c
          refine Xi.up (pc' := 45) (fun _ _ k => x_aload_n dX10_readsTest_44 rfl rfl k) ?_
          refine Xi.up (pc' := 46) (fun _ _ k => x_dupR dX10_readsTest_45 k) ?_
          refine Xi.up (pc' := 49) (fun _ _ k => x_getIK hK7 lf10_51 rfl dX10_readsTest_46 h0.1 k) ?_
          refine Xi.up (pc' := 50) (fun _ _ k => x_aload_n dX10_readsTest_49 rfl rfl k) ?_
          refine Xi.up (pc' := 53) (fun _ _ k => x_getIK hK7 lf10_58 rfl dX10_readsTest_50 h0.1 k) ?_
          refine Xi.br (tgt := 60) (pc' := 56) (0 ≤ (mI M5 2230 3)) (fun _ _ kt kf => x_if_ge dX10_readsTest_53 rfl kt kf) (fun c => ?_) (fun c => ?_)
          · have h := h.1 c
            refine Xi.up (pc' := 61) (fun _ _ k => x_iconst dX10_readsTest_60 (show inR 0 from ⟨by decide, by decide⟩) k) ?_
            obtain ⟨g69, h⟩ := h
            refine Xi.up (pc' := 62) (fun _ _ k => x_iadd dX10_readsTest_61 g69 k) ?_
            refine Xi.up (pc' := 65) (fun _ _ k => x_putIK hK7 lf10_51 rfl rfl (Or.inl rfl) dX10_readsTest_62 h0.1 k) ?_
            have hK70 := KW.sI hK7 2230 2 ((mI M5 2230 2) + 0)
            refine Xi.up (pc' := 66) (fun _ _ k => x_aload_n dX10_readsTest_65 rfl rfl k) ?_
            obtain ⟨x72, M71, hc74, hK73, h⟩ := h
            refine Xi.up (pc' := 69) (st' := [zi x72]) (fun _ _ k => x_callVK (ci := 10) (as := []) (st := []) hK70 k10_readsSum lm10_107 dX10_readsTest_66 rfl (by decide) (zs8 rfl) h0.1 ⟨_, _, rfl⟩ hc74 k) ?_
            refine Xi.up (pc' := 70) (L' := [some (zr 2230), some (zi x2), some (zi x6), some (zi x72)]) (fun _ _ k => x_istore_n dX10_readsTest_69 rfl (by decide) rfl k) ?_
            refine Xi.up (pc' := 71) (fun _ _ k => x_aload_n dX10_readsTest_70 rfl rfl k) ?_
            refine Xi.up (pc' := 73) (fun _ _ k => x_bipush dX10_readsTest_71 (show inR 10 from ⟨by decide, by decide⟩) (by decide) k) ?_
            refine Xi.up (pc' := 74) (fun _ _ k => x_iload_n dX10_readsTest_73 rfl rfl k) ?_
            refine Xi.up (pc' := 75) (fun _ _ k => x_iload_n dX10_readsTest_74 rfl rfl k) ?_
            refine Xi.up (pc' := 76) (fun _ _ k => x_iload_n dX10_readsTest_75 rfl rfl k) ?_
            obtain ⟨x76, M75, hc78, hK77, h⟩ := h
            refine Xi.up (pc' := 79) (st' := [zi x76]) (fun _ _ k => x_callVK (ci := 10) (as := [zi 10, zi x2, zi x72, zi x6]) (st := []) hK73 k10_writes lm10_87 dX10_readsTest_76 rfl (by decide) (zs8 rfl) h0.1 ⟨_, _, rfl⟩ hc78 k) ?_
            exact Xi.ret ⟨dX10_readsTest_79, Or.inl rfl⟩ h
          · have h := h.2 c
            refine Xi.up (pc' := 57) (fun _ _ k => x_iconst dX10_readsTest_56 (show inR 1 from ⟨by decide, by decide⟩) k) ?_
            refine Xi.up (pc' := 61) (fun _ _ k => x_goto dX10_readsTest_57 rfl k) ?_
            obtain ⟨g79, h⟩ := h
            refine Xi.up (pc' := 62) (fun _ _ k => x_iadd dX10_readsTest_61 g79 k) ?_
            refine Xi.up (pc' := 65) (fun _ _ k => x_putIK hK7 lf10_51 rfl rfl (Or.inl rfl) dX10_readsTest_62 h0.1 k) ?_
            have hK80 := KW.sI hK7 2230 2 ((mI M5 2230 2) + 1)
            refine Xi.up (pc' := 66) (fun _ _ k => x_aload_n dX10_readsTest_65 rfl rfl k) ?_
            obtain ⟨x82, M81, hc84, hK83, h⟩ := h
            refine Xi.up (pc' := 69) (st' := [zi x82]) (fun _ _ k => x_callVK (ci := 10) (as := []) (st := []) hK80 k10_readsSum lm10_107 dX10_readsTest_66 rfl (by decide) (zs8 rfl) h0.1 ⟨_, _, rfl⟩ hc84 k) ?_
            refine Xi.up (pc' := 70) (L' := [some (zr 2230), some (zi x2), some (zi x6), some (zi x82)]) (fun _ _ k => x_istore_n dX10_readsTest_69 rfl (by decide) rfl k) ?_
            refine Xi.up (pc' := 71) (fun _ _ k => x_aload_n dX10_readsTest_70 rfl rfl k) ?_
            refine Xi.up (pc' := 73) (fun _ _ k => x_bipush dX10_readsTest_71 (show inR 10 from ⟨by decide, by decide⟩) (by decide) k) ?_
            refine Xi.up (pc' := 74) (fun _ _ k => x_iload_n dX10_readsTest_73 rfl rfl k) ?_
            refine Xi.up (pc' := 75) (fun _ _ k => x_iload_n dX10_readsTest_74 rfl rfl k) ?_
            refine Xi.up (pc' := 76) (fun _ _ k => x_iload_n dX10_readsTest_75 rfl rfl k) ?_
            obtain ⟨x86, M85, hc88, hK87, h⟩ := h
            refine Xi.up (pc' := 79) (st' := [zi x86]) (fun _ _ k => x_callVK (ci := 10) (as := [zi 10, zi x2, zi x82, zi x6]) (st := []) hK83 k10_writes lm10_87 dX10_readsTest_76 rfl (by decide) (zs8 rfl) h0.1 ⟨_, _, rfl⟩ hc88 k) ?_
            exact Xi.ret ⟨dX10_readsTest_79, Or.inl rfl⟩ h
        · have h := h.2 c
          refine Xi.up (pc' := 35) (fun _ _ k => x_aload_n dX10_readsTest_34 rfl rfl k) ?_
          refine Xi.up (pc' := 36) (fun _ _ k => x_aload_n dX10_readsTest_35 rfl rfl k) ?_
          refine Xi.up (pc' := 39) (fun _ _ k => x_getIK hK7 lf10_51 rfl dX10_readsTest_36 h0.1 k) ?_
          obtain ⟨M89, hc91, hK90, h⟩ := h
          refine Xi.up (pc' := 42) (st' := []) (fun _ _ k => x_callVK (ci := 10) (as := [zi (mI M5 2230 2)]) (st := []) hK7 k10_wrong lm10_69 dX10_readsTest_39 rfl (by decide) (zs8 rfl) h0.1 ⟨_, _, rfl⟩ hc91 k) ?_
          refine Xi.up (pc' := 43) (fun _ _ k => x_iconst dX10_readsTest_42 (show inR 0 from ⟨by decide, by decide⟩) k) ?_
          exact Xi.ret ⟨dX10_readsTest_43, Or.inl rfl⟩ h
set_option maxHeartbeats 4000000 in
set_option maxRecDepth 20000 in
theorem B10_readsChoose {d : Nat} {K M : ZMem} {Q : Int → ZMem → Prop} (a1 : Int) (hK : KW K M) (h0 : ModelAt K 2230) (h : Ci d q10_takes [zr 2230, zi 123] M (fun x2 M1 => KW K M1 ∧ ((x2 ≠ 0 → (Xi (d + 1) q10_readsChoose 45 [some (zr 2230), some (zi a1), some (zi (-1)), some (zi (-1)), some (zi 0), some (zi 1), none, none] [] M1 Q)) ∧ (¬ (x2 ≠ 0) → (Ci d q10_readsSum [zr 2230] M1 (fun x6 M5 => KW K M5 ∧ Cv d q10_wants [zr 2230, zi 44] M5 (fun M9 => KW K M9 ∧ Ci d q10_readsSum [zr 2230] M9 (fun x13 M12 => KW K M12 ∧ Ci d q10_writes [zr 2230, zi 8, zi a1, zi x6, zi x13] M12 (fun x17 M16 => KW K M16 ∧ Q x17 M16))))))))) : Ci (d + 1) q10_readsChoose [zr 2230, zi a1] M Q := by
  refine Ci.of rfl rfl (Nat.le_of_ble_eq_true rfl) (fun w hw x e => by subst e; simp at hw) (L := [some (zr 2230), some (zi a1), none, none, none, none, none, none]) rfl ?_
  refine Xi.up (pc' := 1) (fun _ _ k => x_aload_n dX10_readsChoose_0 rfl rfl k) ?_
  refine Xi.up (pc' := 3) (fun _ _ k => x_bipush dX10_readsChoose_1 (show inR 123 from ⟨by decide, by decide⟩) (by decide) k) ?_
  obtain ⟨x2, M1, hc4, hK3, h⟩ := h
  refine Xi.up (pc' := 6) (st' := [zi x2]) (fun _ _ k => x_callVK (ci := 10) (as := [zi 123]) (st := []) hK k10_takes lm10_65 dX10_readsChoose_3 rfl (by decide) (zs8 rfl) h0.1 ⟨_, _, rfl⟩ hc4 k) ?_
  refine Xi.br (tgt := 35) (pc' := 9) (x2 ≠ 0) (fun _ _ kt kf => x_if_ne dX10_readsChoose_6 rfl kt kf) (fun c => ?_) (fun c => ?_)
  · have h := h.1 c
    refine Xi.up (pc' := 36) (fun _ _ k => x_iconst dX10_readsChoose_35 (show inR (-1) from ⟨by decide, by decide⟩) k) ?_
    refine Xi.up (pc' := 37) (L' := [some (zr 2230), some (zi a1), some (zi (-1)), none, none, none, none, none]) (fun _ _ k => x_istore_n dX10_readsChoose_36 rfl (by decide) rfl k) ?_
    refine Xi.up (pc' := 38) (fun _ _ k => x_iconst dX10_readsChoose_37 (show inR (-1) from ⟨by decide, by decide⟩) k) ?_
    refine Xi.up (pc' := 39) (L' := [some (zr 2230), some (zi a1), some (zi (-1)), some (zi (-1)), none, none, none, none]) (fun _ _ k => x_istore_n dX10_readsChoose_38 rfl (by decide) rfl k) ?_
    refine Xi.up (pc' := 40) (fun _ _ k => x_iconst dX10_readsChoose_39 (show inR 0 from ⟨by decide, by decide⟩) k) ?_
    refine Xi.up (pc' := 42) (L' := [some (zr 2230), some (zi a1), some (zi (-1)), some (zi (-1)), some (zi 0), none, none, none]) (fun _ _ k => x_istore dX10_readsChoose_40 (by decide) rfl k) ?_
    refine Xi.up (pc' := 43) (fun _ _ k => x_iconst dX10_readsChoose_42 (show inR 1 from ⟨by decide, by decide⟩) k) ?_
    refine Xi.up (pc' := 45) (L' := [some (zr 2230), some (zi a1), some (zi (-1)), some (zi (-1)), some (zi 0), some (zi 1), none, none]) (fun _ _ k => x_istore dX10_readsChoose_43 (by decide) rfl k) ?_
    exact h
  · have h := h.2 c
    refine Xi.up (pc' := 10) (fun _ _ k => x_aload_n dX10_readsChoose_9 rfl rfl k) ?_
    obtain ⟨x6, M5, hc8, hK7, h⟩ := h
    refine Xi.up (pc' := 13) (st' := [zi x6]) (fun _ _ k => x_callVK (ci := 10) (as := []) (st := []) hK3 k10_readsSum lm10_107 dX10_readsChoose_10 rfl (by decide) (zs8 rfl) h0.1 ⟨_, _, rfl⟩ hc8 k) ?_
    refine Xi.up (pc' := 14) (L' := [some (zr 2230), some (zi a1), some (zi x6), none, none, none, none, none]) (fun _ _ k => x_istore_n dX10_readsChoose_13 rfl (by decide) rfl k) ?_
    refine Xi.up (pc' := 15) (fun _ _ k => x_aload_n dX10_readsChoose_14 rfl rfl k) ?_
    refine Xi.up (pc' := 17) (fun _ _ k => x_bipush dX10_readsChoose_15 (show inR 44 from ⟨by decide, by decide⟩) (by decide) k) ?_
    obtain ⟨M9, hc11, hK10, h⟩ := h
    refine Xi.up (pc' := 20) (st' := []) (fun _ _ k => x_callVK (ci := 10) (as := [zi 44]) (st := []) hK7 k10_wants lm10_125 dX10_readsChoose_17 rfl (by decide) (zs8 rfl) h0.1 ⟨_, _, rfl⟩ hc11 k) ?_
    refine Xi.up (pc' := 21) (fun _ _ k => x_aload_n dX10_readsChoose_20 rfl rfl k) ?_
    obtain ⟨x13, M12, hc15, hK14, h⟩ := h
    refine Xi.up (pc' := 24) (st' := [zi x13]) (fun _ _ k => x_callVK (ci := 10) (as := []) (st := []) hK10 k10_readsSum lm10_107 dX10_readsChoose_21 rfl (by decide) (zs8 rfl) h0.1 ⟨_, _, rfl⟩ hc15 k) ?_
    refine Xi.up (pc' := 25) (L' := [some (zr 2230), some (zi a1), some (zi x6), some (zi x13), none, none, none, none]) (fun _ _ k => x_istore_n dX10_readsChoose_24 rfl (by decide) rfl k) ?_
    refine Xi.up (pc' := 26) (fun _ _ k => x_aload_n dX10_readsChoose_25 rfl rfl k) ?_
    refine Xi.up (pc' := 28) (fun _ _ k => x_bipush dX10_readsChoose_26 (show inR 8 from ⟨by decide, by decide⟩) (by decide) k) ?_
    refine Xi.up (pc' := 29) (fun _ _ k => x_iload_n dX10_readsChoose_28 rfl rfl k) ?_
    refine Xi.up (pc' := 30) (fun _ _ k => x_iload_n dX10_readsChoose_29 rfl rfl k) ?_
    refine Xi.up (pc' := 31) (fun _ _ k => x_iload_n dX10_readsChoose_30 rfl rfl k) ?_
    obtain ⟨x17, M16, hc19, hK18, h⟩ := h
    refine Xi.up (pc' := 34) (st' := [zi x17]) (fun _ _ k => x_callVK (ci := 10) (as := [zi 8, zi a1, zi x6, zi x13]) (st := []) hK14 k10_writes lm10_87 dX10_readsChoose_31 rfl (by decide) (zs8 rfl) h0.1 ⟨_, _, rfl⟩ hc19 k) ?_
    exact Xi.ret ⟨dX10_readsChoose_34, Or.inl rfl⟩ h
set_option maxHeartbeats 4000000 in
set_option maxRecDepth 20000 in
theorem B10_readsChoose_45 {d : Nat} {K M : ZMem} {Q : Int → ZMem → Prop} (a1 : Int) (l2 : Int) (l3 : Int) (l4 : Int) (l5 : Int) (hK : KW K M) (h0 : ModelAt K 2230) (h : ((l5 = 0 → (Cv d q10_wants [zr 2230, zi 125] M (fun M1 => KW K M1 ∧ Ci d q10_writes [zr 2230, zi 9, zi a1, zi l2, zi l4] M1 (fun x5 M4 => KW K M4 ∧ Q x5 M4)))) ∧ (¬ (l5 = 0) → ((0 ≤ (mI M 2230 3) → (Cv d q10_wants [zr 2230, zi 125] M (fun M8 => KW K M8 ∧ Ci d q10_writes [zr 2230, zi 9, zi a1, zi l2, zi l4] M8 (fun x12 M11 => KW K M11 ∧ Q x12 M11)))) ∧ (¬ (0 ≤ (mI M 2230 3)) → (Ci d q10_readsSum [zr 2230] M (fun x16 M15 => KW K M15 ∧ Ci d q10_writes [zr 2230, zi 12, zi x16, zi 0, zi 0] M15 (fun x20 M19 => KW K M19 ∧ ((l4 ≠ 0 → ((l4 ≤ 0 → ((inR (l4 + 1)) ∧ (((l4 + 1) ≠ 6 → (Ci d q10_takes [zr 2230, zi 44] M19 (fun x25 M24 => KW K M24 ∧ Xi (d + 1) q10_readsChoose 45 [some (zr 2230), some (zi a1), some (zi l2), some (zi x20), some (zi (l4 + 1)), some (zi x25), none, none] [] M24 Q))) ∧ (¬ ((l4 + 1) ≠ 6) → (Ci d q10_peek [zr 2230] M19 (fun x29 M28 => KW K M28 ∧ ((x29 ≠ 44 → (Ci d q10_takes [zr 2230, zi 44] M28 (fun x33 M32 => KW K M32 ∧ Xi (d + 1) q10_readsChoose 45 [some (zr 2230), some (zi a1), some (zi l2), some (zi x20), some (zi (l4 + 1)), some (zi x33), none, none] [] M32 Q))) ∧ (¬ (x29 ≠ 44) → (Cv d q10_wrong [zr 2230, zi (mI M28 2230 2)] M28 (fun M36 => KW K M36 ∧ Ci d q10_takes [zr 2230, zi 44] M36 (fun x40 M39 => KW K M39 ∧ Xi (d + 1) q10_readsChoose 45 [some (zr 2230), some (zi a1), some (zi l2), some (zi x20), some (zi (l4 + 1)), some (zi x40), none, none] [] M39 Q))))))))))) ∧ (¬ (l4 ≤ 0) → ((0 ≤ (mI M19 2230 3) → ((inR (l4 + 1)) ∧ (((l4 + 1) ≠ 6 → (Ci d q10_takes [zr 2230, zi 44] M19 (fun x45 M44 => KW K M44 ∧ Xi (d + 1) q10_readsChoose 45 [some (zr 2230), some (zi a1), some (zi l2), some (zi x20), some (zi (l4 + 1)), some (zi x45), none, none] [] M44 Q))) ∧ (¬ ((l4 + 1) ≠ 6) → (Ci d q10_peek [zr 2230] M19 (fun x49 M48 => KW K M48 ∧ ((x49 ≠ 44 → (Ci d q10_takes [zr 2230, zi 44] M48 (fun x53 M52 => KW K M52 ∧ Xi (d + 1) q10_readsChoose 45 [some (zr 2230), some (zi a1), some (zi l2), some (zi x20), some (zi (l4 + 1)), some (zi x53), none, none] [] M52 Q))) ∧ (¬ (x49 ≠ 44) → (Cv d q10_wrong [zr 2230, zi (mI M48 2230 2)] M48 (fun M56 => KW K M56 ∧ Ci d q10_takes [zr 2230, zi 44] M56 (fun x60 M59 => KW K M59 ∧ Xi (d + 1) q10_readsChoose 45 [some (zr 2230), some (zi a1), some (zi l2), some (zi x20), some (zi (l4 + 1)), some (zi x60), none, none] [] M59 Q))))))))))) ∧ (¬ (0 ≤ (mI M19 2230 3)) → ((0 ≤ l3) ∧ (l3 < 70200) ∧ (inR (l4 + 1)) ∧ (((l4 + 1) ≠ 6 → (Ci d q10_takes [zr 2230, zi 44] (sI M19 2236 l3.toNat x20) (fun x68 M67 => KW K M67 ∧ Xi (d + 1) q10_readsChoose 45 [some (zr 2230), some (zi a1), some (zi l2), some (zi x20), some (zi (l4 + 1)), some (zi x68), none, none] [] M67 Q))) ∧ (¬ ((l4 + 1) ≠ 6) → (Ci d q10_peek [zr 2230] (sI M19 2236 l3.toNat x20) (fun x72 M71 => KW K M71 ∧ ((x72 ≠ 44 → (Ci d q10_takes [zr 2230, zi 44] M71 (fun x76 M75 => KW K M75 ∧ Xi (d + 1) q10_readsChoose 45 [some (zr 2230), some (zi a1), some (zi l2), some (zi x20), some (zi (l4 + 1)), some (zi x76), none, none] [] M75 Q))) ∧ (¬ (x72 ≠ 44) → (Cv d q10_wrong [zr 2230, zi (mI M71 2230 2)] M71 (fun M79 => KW K M79 ∧ Ci d q10_takes [zr 2230, zi 44] M79 (fun x83 M82 => KW K M82 ∧ Xi (d + 1) q10_readsChoose 45 [some (zr 2230), some (zi a1), some (zi l2), some (zi x20), some (zi (l4 + 1)), some (zi x83), none, none] [] M82 Q))))))))))))))) ∧ (¬ (l4 ≠ 0) → ((l4 ≤ 0 → ((inR (l4 + 1)) ∧ (((l4 + 1) ≠ 6 → (Ci d q10_takes [zr 2230, zi 44] M19 (fun x88 M87 => KW K M87 ∧ Xi (d + 1) q10_readsChoose 45 [some (zr 2230), some (zi a1), some (zi x20), some (zi x20), some (zi (l4 + 1)), some (zi x88), none, none] [] M87 Q))) ∧ (¬ ((l4 + 1) ≠ 6) → (Ci d q10_peek [zr 2230] M19 (fun x92 M91 => KW K M91 ∧ ((x92 ≠ 44 → (Ci d q10_takes [zr 2230, zi 44] M91 (fun x96 M95 => KW K M95 ∧ Xi (d + 1) q10_readsChoose 45 [some (zr 2230), some (zi a1), some (zi x20), some (zi x20), some (zi (l4 + 1)), some (zi x96), none, none] [] M95 Q))) ∧ (¬ (x92 ≠ 44) → (Cv d q10_wrong [zr 2230, zi (mI M91 2230 2)] M91 (fun M99 => KW K M99 ∧ Ci d q10_takes [zr 2230, zi 44] M99 (fun x103 M102 => KW K M102 ∧ Xi (d + 1) q10_readsChoose 45 [some (zr 2230), some (zi a1), some (zi x20), some (zi x20), some (zi (l4 + 1)), some (zi x103), none, none] [] M102 Q))))))))))) ∧ (¬ (l4 ≤ 0) → ((0 ≤ (mI M19 2230 3) → ((inR (l4 + 1)) ∧ (((l4 + 1) ≠ 6 → (Ci d q10_takes [zr 2230, zi 44] M19 (fun x108 M107 => KW K M107 ∧ Xi (d + 1) q10_readsChoose 45 [some (zr 2230), some (zi a1), some (zi x20), some (zi x20), some (zi (l4 + 1)), some (zi x108), none, none] [] M107 Q))) ∧ (¬ ((l4 + 1) ≠ 6) → (Ci d q10_peek [zr 2230] M19 (fun x112 M111 => KW K M111 ∧ ((x112 ≠ 44 → (Ci d q10_takes [zr 2230, zi 44] M111 (fun x116 M115 => KW K M115 ∧ Xi (d + 1) q10_readsChoose 45 [some (zr 2230), some (zi a1), some (zi x20), some (zi x20), some (zi (l4 + 1)), some (zi x116), none, none] [] M115 Q))) ∧ (¬ (x112 ≠ 44) → (Cv d q10_wrong [zr 2230, zi (mI M111 2230 2)] M111 (fun M119 => KW K M119 ∧ Ci d q10_takes [zr 2230, zi 44] M119 (fun x123 M122 => KW K M122 ∧ Xi (d + 1) q10_readsChoose 45 [some (zr 2230), some (zi a1), some (zi x20), some (zi x20), some (zi (l4 + 1)), some (zi x123), none, none] [] M122 Q))))))))))) ∧ (¬ (0 ≤ (mI M19 2230 3)) → ((0 ≤ l3) ∧ (l3 < 70200) ∧ (inR (l4 + 1)) ∧ (((l4 + 1) ≠ 6 → (Ci d q10_takes [zr 2230, zi 44] (sI M19 2236 l3.toNat x20) (fun x131 M130 => KW K M130 ∧ Xi (d + 1) q10_readsChoose 45 [some (zr 2230), some (zi a1), some (zi x20), some (zi x20), some (zi (l4 + 1)), some (zi x131), none, none] [] M130 Q))) ∧ (¬ ((l4 + 1) ≠ 6) → (Ci d q10_peek [zr 2230] (sI M19 2236 l3.toNat x20) (fun x135 M134 => KW K M134 ∧ ((x135 ≠ 44 → (Ci d q10_takes [zr 2230, zi 44] M134 (fun x139 M138 => KW K M138 ∧ Xi (d + 1) q10_readsChoose 45 [some (zr 2230), some (zi a1), some (zi x20), some (zi x20), some (zi (l4 + 1)), some (zi x139), none, none] [] M138 Q))) ∧ (¬ (x135 ≠ 44) → (Cv d q10_wrong [zr 2230, zi (mI M134 2230 2)] M134 (fun M142 => KW K M142 ∧ Ci d q10_takes [zr 2230, zi 44] M142 (fun x146 M145 => KW K M145 ∧ Xi (d + 1) q10_readsChoose 45 [some (zr 2230), some (zi a1), some (zi x20), some (zi x20), some (zi (l4 + 1)), some (zi x146), none, none] [] M145 Q)))))))))))))))))))))))) : Xi (d + 1) q10_readsChoose 45 [some (zr 2230), some (zi a1), some (zi l2), some (zi l3), some (zi l4), some (zi l5), none, none] [] M Q := by
  refine Xi.up (pc' := 47) (fun _ _ k => x_iload dX10_readsChoose_45 rfl k) ?_
  refine Xi.br (tgt := 148) (pc' := 50) (l5 = 0) (fun _ _ kt kf => x_if_eq dX10_readsChoose_47 rfl kt kf) (fun c => ?_) (fun c => ?_)
  · have h := h.1 c
    refine Xi.up (pc' := 149) (fun _ _ k => x_aload_n dX10_readsChoose_148 rfl rfl k) ?_
    refine Xi.up (pc' := 151) (fun _ _ k => x_bipush dX10_readsChoose_149 (show inR 125 from ⟨by decide, by decide⟩) (by decide) k) ?_
    obtain ⟨M1, hc3, hK2, h⟩ := h
    refine Xi.up (pc' := 154) (st' := []) (fun _ _ k => x_callVK (ci := 10) (as := [zi 125]) (st := []) hK k10_wants lm10_125 dX10_readsChoose_151 rfl (by decide) (zs8 rfl) h0.1 ⟨_, _, rfl⟩ hc3 k) ?_
    refine Xi.up (pc' := 155) (fun _ _ k => x_aload_n dX10_readsChoose_154 rfl rfl k) ?_
    refine Xi.up (pc' := 157) (fun _ _ k => x_bipush dX10_readsChoose_155 (show inR 9 from ⟨by decide, by decide⟩) (by decide) k) ?_
    refine Xi.up (pc' := 158) (fun _ _ k => x_iload_n dX10_readsChoose_157 rfl rfl k) ?_
    refine Xi.up (pc' := 159) (fun _ _ k => x_iload_n dX10_readsChoose_158 rfl rfl k) ?_
    refine Xi.up (pc' := 161) (fun _ _ k => x_iload dX10_readsChoose_159 rfl k) ?_
    obtain ⟨x5, M4, hc7, hK6, h⟩ := h
    refine Xi.up (pc' := 164) (st' := [zi x5]) (fun _ _ k => x_callVK (ci := 10) (as := [zi 9, zi a1, zi l2, zi l4]) (st := []) hK2 k10_writes lm10_87 dX10_readsChoose_161 rfl (by decide) (zs8 rfl) h0.1 ⟨_, _, rfl⟩ hc7 k) ?_
    exact Xi.ret ⟨dX10_readsChoose_164, Or.inl rfl⟩ h
  · have h := h.2 c
    refine Xi.up (pc' := 51) (fun _ _ k => x_aload_n dX10_readsChoose_50 rfl rfl k) ?_
    refine Xi.up (pc' := 54) (fun _ _ k => x_getIK hK lf10_58 rfl dX10_readsChoose_51 h0.1 k) ?_
    refine Xi.br (tgt := 148) (pc' := 57) (0 ≤ (mI M 2230 3)) (fun _ _ kt kf => x_if_ge dX10_readsChoose_54 rfl kt kf) (fun c => ?_) (fun c => ?_)
    · have h := h.1 c
      refine Xi.up (pc' := 149) (fun _ _ k => x_aload_n dX10_readsChoose_148 rfl rfl k) ?_
      refine Xi.up (pc' := 151) (fun _ _ k => x_bipush dX10_readsChoose_149 (show inR 125 from ⟨by decide, by decide⟩) (by decide) k) ?_
      obtain ⟨M8, hc10, hK9, h⟩ := h
      refine Xi.up (pc' := 154) (st' := []) (fun _ _ k => x_callVK (ci := 10) (as := [zi 125]) (st := []) hK k10_wants lm10_125 dX10_readsChoose_151 rfl (by decide) (zs8 rfl) h0.1 ⟨_, _, rfl⟩ hc10 k) ?_
      refine Xi.up (pc' := 155) (fun _ _ k => x_aload_n dX10_readsChoose_154 rfl rfl k) ?_
      refine Xi.up (pc' := 157) (fun _ _ k => x_bipush dX10_readsChoose_155 (show inR 9 from ⟨by decide, by decide⟩) (by decide) k) ?_
      refine Xi.up (pc' := 158) (fun _ _ k => x_iload_n dX10_readsChoose_157 rfl rfl k) ?_
      refine Xi.up (pc' := 159) (fun _ _ k => x_iload_n dX10_readsChoose_158 rfl rfl k) ?_
      refine Xi.up (pc' := 161) (fun _ _ k => x_iload dX10_readsChoose_159 rfl k) ?_
      obtain ⟨x12, M11, hc14, hK13, h⟩ := h
      refine Xi.up (pc' := 164) (st' := [zi x12]) (fun _ _ k => x_callVK (ci := 10) (as := [zi 9, zi a1, zi l2, zi l4]) (st := []) hK9 k10_writes lm10_87 dX10_readsChoose_161 rfl (by decide) (zs8 rfl) h0.1 ⟨_, _, rfl⟩ hc14 k) ?_
      exact Xi.ret ⟨dX10_readsChoose_164, Or.inl rfl⟩ h
    · have h := h.2 c
      refine Xi.up (pc' := 58) (fun _ _ k => x_aload_n dX10_readsChoose_57 rfl rfl k) ?_
      obtain ⟨x16, M15, hc18, hK17, h⟩ := h
      refine Xi.up (pc' := 61) (st' := [zi x16]) (fun _ _ k => x_callVK (ci := 10) (as := []) (st := []) hK k10_readsSum lm10_107 dX10_readsChoose_58 rfl (by decide) (zs8 rfl) h0.1 ⟨_, _, rfl⟩ hc18 k) ?_
      refine Xi.up (pc' := 63) (L' := [some (zr 2230), some (zi a1), some (zi l2), some (zi l3), some (zi l4), some (zi l5), some (zi x16), none]) (fun _ _ k => x_istore dX10_readsChoose_61 (by decide) rfl k) ?_
      refine Xi.up (pc' := 64) (fun _ _ k => x_aload_n dX10_readsChoose_63 rfl rfl k) ?_
      refine Xi.up (pc' := 66) (fun _ _ k => x_bipush dX10_readsChoose_64 (show inR 12 from ⟨by decide, by decide⟩) (by decide) k) ?_
      refine Xi.up (pc' := 68) (fun _ _ k => x_iload dX10_readsChoose_66 rfl k) ?_
      refine Xi.up (pc' := 69) (fun _ _ k => x_iconst dX10_readsChoose_68 (show inR 0 from ⟨by decide, by decide⟩) k) ?_
      refine Xi.up (pc' := 70) (fun _ _ k => x_iconst dX10_readsChoose_69 (show inR 0 from ⟨by decide, by decide⟩) k) ?_
      obtain ⟨x20, M19, hc22, hK21, h⟩ := h
      refine Xi.up (pc' := 73) (st' := [zi x20]) (fun _ _ k => x_callVK (ci := 10) (as := [zi 12, zi x16, zi 0, zi 0]) (st := []) hK17 k10_writes lm10_87 dX10_readsChoose_70 rfl (by decide) (zs8 rfl) h0.1 ⟨_, _, rfl⟩ hc22 k) ?_
      refine Xi.up (pc' := 75) (L' := [some (zr 2230), some (zi a1), some (zi l2), some (zi l3), some (zi l4), some (zi l5), some (zi x16), some (zi x20)]) (fun _ _ k => x_istore dX10_readsChoose_73 (by decide) rfl k) ?_
      refine Xi.up (pc' := 77) (fun _ _ k => x_iload dX10_readsChoose_75 rfl k) ?_
      refine Xi.br (tgt := 85) (pc' := 80) (l4 ≠ 0) (fun _ _ kt kf => x_if_ne dX10_readsChoose_77 rfl kt kf) (fun c => ?_) (fun c => ?_)
      · have h := h.1 c
        refine Xi.up (pc' := 86) (fun _ _ k => x_iload_n dX10_readsChoose_85 rfl rfl k) ?_
        refine Xi.up (pc' := 87) (L' := [some (zr 2230), some (zi a1), some (zi l2), some (zi l3), some (zi l4), some (zi l5), some (zi x16), some (zi x20)]) (fun _ _ k => x_istore_n dX10_readsChoose_86 rfl (by decide) rfl k) ?_
        refine Xi.up (pc' := 89) (fun _ _ k => x_iload dX10_readsChoose_87 rfl k) ?_
        refine Xi.br (tgt := 107) (pc' := 92) (l4 ≤ 0) (fun _ _ kt kf => x_if_le dX10_readsChoose_89 rfl kt kf) (fun c => ?_) (fun c => ?_)
        · have h := h.1 c
          refine Xi.up (pc' := 109) (fun _ _ k => x_iload dX10_readsChoose_107 rfl k) ?_
          refine Xi.up (pc' := 110) (L' := [some (zr 2230), some (zi a1), some (zi l2), some (zi x20), some (zi l4), some (zi l5), some (zi x16), some (zi x20)]) (fun _ _ k => x_istore_n dX10_readsChoose_109 rfl (by decide) rfl k) ?_
          obtain ⟨g23, h⟩ := h
          refine Xi.up (pc' := 113) (L' := [some (zr 2230), some (zi a1), some (zi l2), some (zi x20), some (zi (l4 + 1)), some (zi l5), some (zi x16), some (zi x20)]) (fun _ _ k => x_iinc dX10_readsChoose_110 rfl g23 (by decide) rfl k) ?_
          refine Xi.up (pc' := 115) (fun _ _ k => x_iload dX10_readsChoose_113 rfl k) ?_
          refine Xi.up (pc' := 117) (fun _ _ k => x_bipush dX10_readsChoose_115 (show inR 6 from ⟨by decide, by decide⟩) (by decide) k) ?_
          refine Xi.br (tgt := 137) (pc' := 120) ((l4 + 1) ≠ 6) (fun _ _ kt kf => x_icmp_ne dX10_readsChoose_117 rfl kt kf) (fun c => ?_) (fun c => ?_)
          · have h := h.1 c
            refine Xi.up (pc' := 138) (fun _ _ k => x_aload_n dX10_readsChoose_137 rfl rfl k) ?_
            refine Xi.up (pc' := 140) (fun _ _ k => x_bipush dX10_readsChoose_138 (show inR 44 from ⟨by decide, by decide⟩) (by decide) k) ?_
            obtain ⟨x25, M24, hc27, hK26, h⟩ := h
            refine Xi.up (pc' := 143) (st' := [zi x25]) (fun _ _ k => x_callVK (ci := 10) (as := [zi 44]) (st := []) hK21 k10_takes lm10_65 dX10_readsChoose_140 rfl (by decide) (zs8 rfl) h0.1 ⟨_, _, rfl⟩ hc27 k) ?_
            refine Xi.up (pc' := 145) (L' := [some (zr 2230), some (zi a1), some (zi l2), some (zi x20), some (zi (l4 + 1)), some (zi x25), some (zi x16), some (zi x20)]) (fun _ _ k => x_istore dX10_readsChoose_143 (by decide) rfl k) ?_
            refine Xi.up (pc' := 45) (fun _ _ k => x_goto dX10_readsChoose_145 rfl k) ?_
            exact Xi.up (fun _ _ k => x_less (L' := [some (zr 2230), some (zi a1), some (zi l2), some (zi x20), some (zi (l4 + 1)), some (zi x25), none, none]) (⟨rfl, ⟨rfl, ⟨rfl, ⟨rfl, ⟨rfl, ⟨rfl, trivial⟩⟩⟩⟩⟩⟩) k) h
          · have h := h.2 c
            refine Xi.up (pc' := 121) (fun _ _ k => x_aload_n dX10_readsChoose_120 rfl rfl k) ?_
            obtain ⟨x29, M28, hc31, hK30, h⟩ := h
            refine Xi.up (pc' := 124) (st' := [zi x29]) (fun _ _ k => x_callVK (ci := 10) (as := []) (st := []) hK21 k10_peek lm10_61 dX10_readsChoose_121 rfl (by decide) (zs8 rfl) h0.1 ⟨_, _, rfl⟩ hc31 k) ?_
            refine Xi.up (pc' := 126) (fun _ _ k => x_bipush dX10_readsChoose_124 (show inR 44 from ⟨by decide, by decide⟩) (by decide) k) ?_
            refine Xi.br (tgt := 137) (pc' := 129) (x29 ≠ 44) (fun _ _ kt kf => x_icmp_ne dX10_readsChoose_126 rfl kt kf) (fun c => ?_) (fun c => ?_)
            · have h := h.1 c
              refine Xi.up (pc' := 138) (fun _ _ k => x_aload_n dX10_readsChoose_137 rfl rfl k) ?_
              refine Xi.up (pc' := 140) (fun _ _ k => x_bipush dX10_readsChoose_138 (show inR 44 from ⟨by decide, by decide⟩) (by decide) k) ?_
              obtain ⟨x33, M32, hc35, hK34, h⟩ := h
              refine Xi.up (pc' := 143) (st' := [zi x33]) (fun _ _ k => x_callVK (ci := 10) (as := [zi 44]) (st := []) hK30 k10_takes lm10_65 dX10_readsChoose_140 rfl (by decide) (zs8 rfl) h0.1 ⟨_, _, rfl⟩ hc35 k) ?_
              refine Xi.up (pc' := 145) (L' := [some (zr 2230), some (zi a1), some (zi l2), some (zi x20), some (zi (l4 + 1)), some (zi x33), some (zi x16), some (zi x20)]) (fun _ _ k => x_istore dX10_readsChoose_143 (by decide) rfl k) ?_
              refine Xi.up (pc' := 45) (fun _ _ k => x_goto dX10_readsChoose_145 rfl k) ?_
              exact Xi.up (fun _ _ k => x_less (L' := [some (zr 2230), some (zi a1), some (zi l2), some (zi x20), some (zi (l4 + 1)), some (zi x33), none, none]) (⟨rfl, ⟨rfl, ⟨rfl, ⟨rfl, ⟨rfl, ⟨rfl, trivial⟩⟩⟩⟩⟩⟩) k) h
            · have h := h.2 c
              refine Xi.up (pc' := 130) (fun _ _ k => x_aload_n dX10_readsChoose_129 rfl rfl k) ?_
              refine Xi.up (pc' := 131) (fun _ _ k => x_aload_n dX10_readsChoose_130 rfl rfl k) ?_
              refine Xi.up (pc' := 134) (fun _ _ k => x_getIK hK30 lf10_51 rfl dX10_readsChoose_131 h0.1 k) ?_
              obtain ⟨M36, hc38, hK37, h⟩ := h
              refine Xi.up (pc' := 137) (st' := []) (fun _ _ k => x_callVK (ci := 10) (as := [zi (mI M28 2230 2)]) (st := []) hK30 k10_wrong lm10_69 dX10_readsChoose_134 rfl (by decide) (zs8 rfl) h0.1 ⟨_, _, rfl⟩ hc38 k) ?_
              refine Xi.up (pc' := 138) (fun _ _ k => x_aload_n dX10_readsChoose_137 rfl rfl k) ?_
              refine Xi.up (pc' := 140) (fun _ _ k => x_bipush dX10_readsChoose_138 (show inR 44 from ⟨by decide, by decide⟩) (by decide) k) ?_
              obtain ⟨x40, M39, hc42, hK41, h⟩ := h
              refine Xi.up (pc' := 143) (st' := [zi x40]) (fun _ _ k => x_callVK (ci := 10) (as := [zi 44]) (st := []) hK37 k10_takes lm10_65 dX10_readsChoose_140 rfl (by decide) (zs8 rfl) h0.1 ⟨_, _, rfl⟩ hc42 k) ?_
              refine Xi.up (pc' := 145) (L' := [some (zr 2230), some (zi a1), some (zi l2), some (zi x20), some (zi (l4 + 1)), some (zi x40), some (zi x16), some (zi x20)]) (fun _ _ k => x_istore dX10_readsChoose_143 (by decide) rfl k) ?_
              refine Xi.up (pc' := 45) (fun _ _ k => x_goto dX10_readsChoose_145 rfl k) ?_
              exact Xi.up (fun _ _ k => x_less (L' := [some (zr 2230), some (zi a1), some (zi l2), some (zi x20), some (zi (l4 + 1)), some (zi x40), none, none]) (⟨rfl, ⟨rfl, ⟨rfl, ⟨rfl, ⟨rfl, ⟨rfl, trivial⟩⟩⟩⟩⟩⟩) k) h
        · have h := h.2 c
          refine Xi.up (pc' := 93) (fun _ _ k => x_aload_n dX10_readsChoose_92 rfl rfl k) ?_
          refine Xi.up (pc' := 96) (fun _ _ k => x_getIK hK21 lf10_58 rfl dX10_readsChoose_93 h0.1 k) ?_
          refine Xi.br (tgt := 107) (pc' := 99) (0 ≤ (mI M19 2230 3)) (fun _ _ kt kf => x_if_ge dX10_readsChoose_96 rfl kt kf) (fun c => ?_) (fun c => ?_)
          · have h := h.1 c
            refine Xi.up (pc' := 109) (fun _ _ k => x_iload dX10_readsChoose_107 rfl k) ?_
            refine Xi.up (pc' := 110) (L' := [some (zr 2230), some (zi a1), some (zi l2), some (zi x20), some (zi l4), some (zi l5), some (zi x16), some (zi x20)]) (fun _ _ k => x_istore_n dX10_readsChoose_109 rfl (by decide) rfl k) ?_
            obtain ⟨g43, h⟩ := h
            refine Xi.up (pc' := 113) (L' := [some (zr 2230), some (zi a1), some (zi l2), some (zi x20), some (zi (l4 + 1)), some (zi l5), some (zi x16), some (zi x20)]) (fun _ _ k => x_iinc dX10_readsChoose_110 rfl g43 (by decide) rfl k) ?_
            refine Xi.up (pc' := 115) (fun _ _ k => x_iload dX10_readsChoose_113 rfl k) ?_
            refine Xi.up (pc' := 117) (fun _ _ k => x_bipush dX10_readsChoose_115 (show inR 6 from ⟨by decide, by decide⟩) (by decide) k) ?_
            refine Xi.br (tgt := 137) (pc' := 120) ((l4 + 1) ≠ 6) (fun _ _ kt kf => x_icmp_ne dX10_readsChoose_117 rfl kt kf) (fun c => ?_) (fun c => ?_)
            · have h := h.1 c
              refine Xi.up (pc' := 138) (fun _ _ k => x_aload_n dX10_readsChoose_137 rfl rfl k) ?_
              refine Xi.up (pc' := 140) (fun _ _ k => x_bipush dX10_readsChoose_138 (show inR 44 from ⟨by decide, by decide⟩) (by decide) k) ?_
              obtain ⟨x45, M44, hc47, hK46, h⟩ := h
              refine Xi.up (pc' := 143) (st' := [zi x45]) (fun _ _ k => x_callVK (ci := 10) (as := [zi 44]) (st := []) hK21 k10_takes lm10_65 dX10_readsChoose_140 rfl (by decide) (zs8 rfl) h0.1 ⟨_, _, rfl⟩ hc47 k) ?_
              refine Xi.up (pc' := 145) (L' := [some (zr 2230), some (zi a1), some (zi l2), some (zi x20), some (zi (l4 + 1)), some (zi x45), some (zi x16), some (zi x20)]) (fun _ _ k => x_istore dX10_readsChoose_143 (by decide) rfl k) ?_
              refine Xi.up (pc' := 45) (fun _ _ k => x_goto dX10_readsChoose_145 rfl k) ?_
              exact Xi.up (fun _ _ k => x_less (L' := [some (zr 2230), some (zi a1), some (zi l2), some (zi x20), some (zi (l4 + 1)), some (zi x45), none, none]) (⟨rfl, ⟨rfl, ⟨rfl, ⟨rfl, ⟨rfl, ⟨rfl, trivial⟩⟩⟩⟩⟩⟩) k) h
            · have h := h.2 c
              refine Xi.up (pc' := 121) (fun _ _ k => x_aload_n dX10_readsChoose_120 rfl rfl k) ?_
              obtain ⟨x49, M48, hc51, hK50, h⟩ := h
              refine Xi.up (pc' := 124) (st' := [zi x49]) (fun _ _ k => x_callVK (ci := 10) (as := []) (st := []) hK21 k10_peek lm10_61 dX10_readsChoose_121 rfl (by decide) (zs8 rfl) h0.1 ⟨_, _, rfl⟩ hc51 k) ?_
              refine Xi.up (pc' := 126) (fun _ _ k => x_bipush dX10_readsChoose_124 (show inR 44 from ⟨by decide, by decide⟩) (by decide) k) ?_
              refine Xi.br (tgt := 137) (pc' := 129) (x49 ≠ 44) (fun _ _ kt kf => x_icmp_ne dX10_readsChoose_126 rfl kt kf) (fun c => ?_) (fun c => ?_)
              · have h := h.1 c
                refine Xi.up (pc' := 138) (fun _ _ k => x_aload_n dX10_readsChoose_137 rfl rfl k) ?_
                refine Xi.up (pc' := 140) (fun _ _ k => x_bipush dX10_readsChoose_138 (show inR 44 from ⟨by decide, by decide⟩) (by decide) k) ?_
                obtain ⟨x53, M52, hc55, hK54, h⟩ := h
                refine Xi.up (pc' := 143) (st' := [zi x53]) (fun _ _ k => x_callVK (ci := 10) (as := [zi 44]) (st := []) hK50 k10_takes lm10_65 dX10_readsChoose_140 rfl (by decide) (zs8 rfl) h0.1 ⟨_, _, rfl⟩ hc55 k) ?_
                refine Xi.up (pc' := 145) (L' := [some (zr 2230), some (zi a1), some (zi l2), some (zi x20), some (zi (l4 + 1)), some (zi x53), some (zi x16), some (zi x20)]) (fun _ _ k => x_istore dX10_readsChoose_143 (by decide) rfl k) ?_
                refine Xi.up (pc' := 45) (fun _ _ k => x_goto dX10_readsChoose_145 rfl k) ?_
                exact Xi.up (fun _ _ k => x_less (L' := [some (zr 2230), some (zi a1), some (zi l2), some (zi x20), some (zi (l4 + 1)), some (zi x53), none, none]) (⟨rfl, ⟨rfl, ⟨rfl, ⟨rfl, ⟨rfl, ⟨rfl, trivial⟩⟩⟩⟩⟩⟩) k) h
              · have h := h.2 c
                refine Xi.up (pc' := 130) (fun _ _ k => x_aload_n dX10_readsChoose_129 rfl rfl k) ?_
                refine Xi.up (pc' := 131) (fun _ _ k => x_aload_n dX10_readsChoose_130 rfl rfl k) ?_
                refine Xi.up (pc' := 134) (fun _ _ k => x_getIK hK50 lf10_51 rfl dX10_readsChoose_131 h0.1 k) ?_
                obtain ⟨M56, hc58, hK57, h⟩ := h
                refine Xi.up (pc' := 137) (st' := []) (fun _ _ k => x_callVK (ci := 10) (as := [zi (mI M48 2230 2)]) (st := []) hK50 k10_wrong lm10_69 dX10_readsChoose_134 rfl (by decide) (zs8 rfl) h0.1 ⟨_, _, rfl⟩ hc58 k) ?_
                refine Xi.up (pc' := 138) (fun _ _ k => x_aload_n dX10_readsChoose_137 rfl rfl k) ?_
                refine Xi.up (pc' := 140) (fun _ _ k => x_bipush dX10_readsChoose_138 (show inR 44 from ⟨by decide, by decide⟩) (by decide) k) ?_
                obtain ⟨x60, M59, hc62, hK61, h⟩ := h
                refine Xi.up (pc' := 143) (st' := [zi x60]) (fun _ _ k => x_callVK (ci := 10) (as := [zi 44]) (st := []) hK57 k10_takes lm10_65 dX10_readsChoose_140 rfl (by decide) (zs8 rfl) h0.1 ⟨_, _, rfl⟩ hc62 k) ?_
                refine Xi.up (pc' := 145) (L' := [some (zr 2230), some (zi a1), some (zi l2), some (zi x20), some (zi (l4 + 1)), some (zi x60), some (zi x16), some (zi x20)]) (fun _ _ k => x_istore dX10_readsChoose_143 (by decide) rfl k) ?_
                refine Xi.up (pc' := 45) (fun _ _ k => x_goto dX10_readsChoose_145 rfl k) ?_
                exact Xi.up (fun _ _ k => x_less (L' := [some (zr 2230), some (zi a1), some (zi l2), some (zi x20), some (zi (l4 + 1)), some (zi x60), none, none]) (⟨rfl, ⟨rfl, ⟨rfl, ⟨rfl, ⟨rfl, ⟨rfl, trivial⟩⟩⟩⟩⟩⟩) k) h
          · have h := h.2 c
            refine Xi.up (pc' := 100) (fun _ _ k => x_aload_n dX10_readsChoose_99 rfl rfl k) ?_
            refine Xi.up (pc' := 103) (fun _ _ k => x_getRK hK21 lf10_26 rfl dX10_readsChoose_100 h0.1 h0.2.2.2.2.2.2.1 k) ?_
            refine Xi.up (pc' := 104) (fun _ _ k => x_iload_n dX10_readsChoose_103 rfl rfl k) ?_
            refine Xi.up (pc' := 106) (fun _ _ k => x_iload dX10_readsChoose_104 rfl k) ?_
            obtain ⟨g63, h⟩ := h
            obtain ⟨g64, h⟩ := h
            refine Xi.up (pc' := 107) (fun _ _ k => x_iastoreK hK21 dX10_readsChoose_106 h0.2.2.2.2.2.2.2.2.2.2.2.2.2.2.2.2.1 g63 g64 k) ?_
            have hK65 := KW.sI hK21 2236 l3.toNat x20
            refine Xi.up (pc' := 109) (fun _ _ k => x_iload dX10_readsChoose_107 rfl k) ?_
            refine Xi.up (pc' := 110) (L' := [some (zr 2230), some (zi a1), some (zi l2), some (zi x20), some (zi l4), some (zi l5), some (zi x16), some (zi x20)]) (fun _ _ k => x_istore_n dX10_readsChoose_109 rfl (by decide) rfl k) ?_
            obtain ⟨g66, h⟩ := h
            refine Xi.up (pc' := 113) (L' := [some (zr 2230), some (zi a1), some (zi l2), some (zi x20), some (zi (l4 + 1)), some (zi l5), some (zi x16), some (zi x20)]) (fun _ _ k => x_iinc dX10_readsChoose_110 rfl g66 (by decide) rfl k) ?_
            refine Xi.up (pc' := 115) (fun _ _ k => x_iload dX10_readsChoose_113 rfl k) ?_
            refine Xi.up (pc' := 117) (fun _ _ k => x_bipush dX10_readsChoose_115 (show inR 6 from ⟨by decide, by decide⟩) (by decide) k) ?_
            refine Xi.br (tgt := 137) (pc' := 120) ((l4 + 1) ≠ 6) (fun _ _ kt kf => x_icmp_ne dX10_readsChoose_117 rfl kt kf) (fun c => ?_) (fun c => ?_)
            · have h := h.1 c
              refine Xi.up (pc' := 138) (fun _ _ k => x_aload_n dX10_readsChoose_137 rfl rfl k) ?_
              refine Xi.up (pc' := 140) (fun _ _ k => x_bipush dX10_readsChoose_138 (show inR 44 from ⟨by decide, by decide⟩) (by decide) k) ?_
              obtain ⟨x68, M67, hc70, hK69, h⟩ := h
              refine Xi.up (pc' := 143) (st' := [zi x68]) (fun _ _ k => x_callVK (ci := 10) (as := [zi 44]) (st := []) hK65 k10_takes lm10_65 dX10_readsChoose_140 rfl (by decide) (zs8 rfl) h0.1 ⟨_, _, rfl⟩ hc70 k) ?_
              refine Xi.up (pc' := 145) (L' := [some (zr 2230), some (zi a1), some (zi l2), some (zi x20), some (zi (l4 + 1)), some (zi x68), some (zi x16), some (zi x20)]) (fun _ _ k => x_istore dX10_readsChoose_143 (by decide) rfl k) ?_
              refine Xi.up (pc' := 45) (fun _ _ k => x_goto dX10_readsChoose_145 rfl k) ?_
              exact Xi.up (fun _ _ k => x_less (L' := [some (zr 2230), some (zi a1), some (zi l2), some (zi x20), some (zi (l4 + 1)), some (zi x68), none, none]) (⟨rfl, ⟨rfl, ⟨rfl, ⟨rfl, ⟨rfl, ⟨rfl, trivial⟩⟩⟩⟩⟩⟩) k) h
            · have h := h.2 c
              refine Xi.up (pc' := 121) (fun _ _ k => x_aload_n dX10_readsChoose_120 rfl rfl k) ?_
              obtain ⟨x72, M71, hc74, hK73, h⟩ := h
              refine Xi.up (pc' := 124) (st' := [zi x72]) (fun _ _ k => x_callVK (ci := 10) (as := []) (st := []) hK65 k10_peek lm10_61 dX10_readsChoose_121 rfl (by decide) (zs8 rfl) h0.1 ⟨_, _, rfl⟩ hc74 k) ?_
              refine Xi.up (pc' := 126) (fun _ _ k => x_bipush dX10_readsChoose_124 (show inR 44 from ⟨by decide, by decide⟩) (by decide) k) ?_
              refine Xi.br (tgt := 137) (pc' := 129) (x72 ≠ 44) (fun _ _ kt kf => x_icmp_ne dX10_readsChoose_126 rfl kt kf) (fun c => ?_) (fun c => ?_)
              · have h := h.1 c
                refine Xi.up (pc' := 138) (fun _ _ k => x_aload_n dX10_readsChoose_137 rfl rfl k) ?_
                refine Xi.up (pc' := 140) (fun _ _ k => x_bipush dX10_readsChoose_138 (show inR 44 from ⟨by decide, by decide⟩) (by decide) k) ?_
                obtain ⟨x76, M75, hc78, hK77, h⟩ := h
                refine Xi.up (pc' := 143) (st' := [zi x76]) (fun _ _ k => x_callVK (ci := 10) (as := [zi 44]) (st := []) hK73 k10_takes lm10_65 dX10_readsChoose_140 rfl (by decide) (zs8 rfl) h0.1 ⟨_, _, rfl⟩ hc78 k) ?_
                refine Xi.up (pc' := 145) (L' := [some (zr 2230), some (zi a1), some (zi l2), some (zi x20), some (zi (l4 + 1)), some (zi x76), some (zi x16), some (zi x20)]) (fun _ _ k => x_istore dX10_readsChoose_143 (by decide) rfl k) ?_
                refine Xi.up (pc' := 45) (fun _ _ k => x_goto dX10_readsChoose_145 rfl k) ?_
                exact Xi.up (fun _ _ k => x_less (L' := [some (zr 2230), some (zi a1), some (zi l2), some (zi x20), some (zi (l4 + 1)), some (zi x76), none, none]) (⟨rfl, ⟨rfl, ⟨rfl, ⟨rfl, ⟨rfl, ⟨rfl, trivial⟩⟩⟩⟩⟩⟩) k) h
              · have h := h.2 c
                refine Xi.up (pc' := 130) (fun _ _ k => x_aload_n dX10_readsChoose_129 rfl rfl k) ?_
                refine Xi.up (pc' := 131) (fun _ _ k => x_aload_n dX10_readsChoose_130 rfl rfl k) ?_
                refine Xi.up (pc' := 134) (fun _ _ k => x_getIK hK73 lf10_51 rfl dX10_readsChoose_131 h0.1 k) ?_
                obtain ⟨M79, hc81, hK80, h⟩ := h
                refine Xi.up (pc' := 137) (st' := []) (fun _ _ k => x_callVK (ci := 10) (as := [zi (mI M71 2230 2)]) (st := []) hK73 k10_wrong lm10_69 dX10_readsChoose_134 rfl (by decide) (zs8 rfl) h0.1 ⟨_, _, rfl⟩ hc81 k) ?_
                refine Xi.up (pc' := 138) (fun _ _ k => x_aload_n dX10_readsChoose_137 rfl rfl k) ?_
                refine Xi.up (pc' := 140) (fun _ _ k => x_bipush dX10_readsChoose_138 (show inR 44 from ⟨by decide, by decide⟩) (by decide) k) ?_
                obtain ⟨x83, M82, hc85, hK84, h⟩ := h
                refine Xi.up (pc' := 143) (st' := [zi x83]) (fun _ _ k => x_callVK (ci := 10) (as := [zi 44]) (st := []) hK80 k10_takes lm10_65 dX10_readsChoose_140 rfl (by decide) (zs8 rfl) h0.1 ⟨_, _, rfl⟩ hc85 k) ?_
                refine Xi.up (pc' := 145) (L' := [some (zr 2230), some (zi a1), some (zi l2), some (zi x20), some (zi (l4 + 1)), some (zi x83), some (zi x16), some (zi x20)]) (fun _ _ k => x_istore dX10_readsChoose_143 (by decide) rfl k) ?_
                refine Xi.up (pc' := 45) (fun _ _ k => x_goto dX10_readsChoose_145 rfl k) ?_
                exact Xi.up (fun _ _ k => x_less (L' := [some (zr 2230), some (zi a1), some (zi l2), some (zi x20), some (zi (l4 + 1)), some (zi x83), none, none]) (⟨rfl, ⟨rfl, ⟨rfl, ⟨rfl, ⟨rfl, ⟨rfl, trivial⟩⟩⟩⟩⟩⟩) k) h
      · have h := h.2 c
        refine Xi.up (pc' := 82) (fun _ _ k => x_iload dX10_readsChoose_80 rfl k) ?_
        refine Xi.up (pc' := 86) (fun _ _ k => x_goto dX10_readsChoose_82 rfl k) ?_
        refine Xi.up (pc' := 87) (L' := [some (zr 2230), some (zi a1), some (zi x20), some (zi l3), some (zi l4), some (zi l5), some (zi x16), some (zi x20)]) (fun _ _ k => x_istore_n dX10_readsChoose_86 rfl (by decide) rfl k) ?_
        refine Xi.up (pc' := 89) (fun _ _ k => x_iload dX10_readsChoose_87 rfl k) ?_
        refine Xi.br (tgt := 107) (pc' := 92) (l4 ≤ 0) (fun _ _ kt kf => x_if_le dX10_readsChoose_89 rfl kt kf) (fun c => ?_) (fun c => ?_)
        · have h := h.1 c
          refine Xi.up (pc' := 109) (fun _ _ k => x_iload dX10_readsChoose_107 rfl k) ?_
          refine Xi.up (pc' := 110) (L' := [some (zr 2230), some (zi a1), some (zi x20), some (zi x20), some (zi l4), some (zi l5), some (zi x16), some (zi x20)]) (fun _ _ k => x_istore_n dX10_readsChoose_109 rfl (by decide) rfl k) ?_
          obtain ⟨g86, h⟩ := h
          refine Xi.up (pc' := 113) (L' := [some (zr 2230), some (zi a1), some (zi x20), some (zi x20), some (zi (l4 + 1)), some (zi l5), some (zi x16), some (zi x20)]) (fun _ _ k => x_iinc dX10_readsChoose_110 rfl g86 (by decide) rfl k) ?_
          refine Xi.up (pc' := 115) (fun _ _ k => x_iload dX10_readsChoose_113 rfl k) ?_
          refine Xi.up (pc' := 117) (fun _ _ k => x_bipush dX10_readsChoose_115 (show inR 6 from ⟨by decide, by decide⟩) (by decide) k) ?_
          refine Xi.br (tgt := 137) (pc' := 120) ((l4 + 1) ≠ 6) (fun _ _ kt kf => x_icmp_ne dX10_readsChoose_117 rfl kt kf) (fun c => ?_) (fun c => ?_)
          · have h := h.1 c
            refine Xi.up (pc' := 138) (fun _ _ k => x_aload_n dX10_readsChoose_137 rfl rfl k) ?_
            refine Xi.up (pc' := 140) (fun _ _ k => x_bipush dX10_readsChoose_138 (show inR 44 from ⟨by decide, by decide⟩) (by decide) k) ?_
            obtain ⟨x88, M87, hc90, hK89, h⟩ := h
            refine Xi.up (pc' := 143) (st' := [zi x88]) (fun _ _ k => x_callVK (ci := 10) (as := [zi 44]) (st := []) hK21 k10_takes lm10_65 dX10_readsChoose_140 rfl (by decide) (zs8 rfl) h0.1 ⟨_, _, rfl⟩ hc90 k) ?_
            refine Xi.up (pc' := 145) (L' := [some (zr 2230), some (zi a1), some (zi x20), some (zi x20), some (zi (l4 + 1)), some (zi x88), some (zi x16), some (zi x20)]) (fun _ _ k => x_istore dX10_readsChoose_143 (by decide) rfl k) ?_
            refine Xi.up (pc' := 45) (fun _ _ k => x_goto dX10_readsChoose_145 rfl k) ?_
            exact Xi.up (fun _ _ k => x_less (L' := [some (zr 2230), some (zi a1), some (zi x20), some (zi x20), some (zi (l4 + 1)), some (zi x88), none, none]) (⟨rfl, ⟨rfl, ⟨rfl, ⟨rfl, ⟨rfl, ⟨rfl, trivial⟩⟩⟩⟩⟩⟩) k) h
          · have h := h.2 c
            refine Xi.up (pc' := 121) (fun _ _ k => x_aload_n dX10_readsChoose_120 rfl rfl k) ?_
            obtain ⟨x92, M91, hc94, hK93, h⟩ := h
            refine Xi.up (pc' := 124) (st' := [zi x92]) (fun _ _ k => x_callVK (ci := 10) (as := []) (st := []) hK21 k10_peek lm10_61 dX10_readsChoose_121 rfl (by decide) (zs8 rfl) h0.1 ⟨_, _, rfl⟩ hc94 k) ?_
            refine Xi.up (pc' := 126) (fun _ _ k => x_bipush dX10_readsChoose_124 (show inR 44 from ⟨by decide, by decide⟩) (by decide) k) ?_
            refine Xi.br (tgt := 137) (pc' := 129) (x92 ≠ 44) (fun _ _ kt kf => x_icmp_ne dX10_readsChoose_126 rfl kt kf) (fun c => ?_) (fun c => ?_)
            · have h := h.1 c
              refine Xi.up (pc' := 138) (fun _ _ k => x_aload_n dX10_readsChoose_137 rfl rfl k) ?_
              refine Xi.up (pc' := 140) (fun _ _ k => x_bipush dX10_readsChoose_138 (show inR 44 from ⟨by decide, by decide⟩) (by decide) k) ?_
              obtain ⟨x96, M95, hc98, hK97, h⟩ := h
              refine Xi.up (pc' := 143) (st' := [zi x96]) (fun _ _ k => x_callVK (ci := 10) (as := [zi 44]) (st := []) hK93 k10_takes lm10_65 dX10_readsChoose_140 rfl (by decide) (zs8 rfl) h0.1 ⟨_, _, rfl⟩ hc98 k) ?_
              refine Xi.up (pc' := 145) (L' := [some (zr 2230), some (zi a1), some (zi x20), some (zi x20), some (zi (l4 + 1)), some (zi x96), some (zi x16), some (zi x20)]) (fun _ _ k => x_istore dX10_readsChoose_143 (by decide) rfl k) ?_
              refine Xi.up (pc' := 45) (fun _ _ k => x_goto dX10_readsChoose_145 rfl k) ?_
              exact Xi.up (fun _ _ k => x_less (L' := [some (zr 2230), some (zi a1), some (zi x20), some (zi x20), some (zi (l4 + 1)), some (zi x96), none, none]) (⟨rfl, ⟨rfl, ⟨rfl, ⟨rfl, ⟨rfl, ⟨rfl, trivial⟩⟩⟩⟩⟩⟩) k) h
            · have h := h.2 c
              refine Xi.up (pc' := 130) (fun _ _ k => x_aload_n dX10_readsChoose_129 rfl rfl k) ?_
              refine Xi.up (pc' := 131) (fun _ _ k => x_aload_n dX10_readsChoose_130 rfl rfl k) ?_
              refine Xi.up (pc' := 134) (fun _ _ k => x_getIK hK93 lf10_51 rfl dX10_readsChoose_131 h0.1 k) ?_
              obtain ⟨M99, hc101, hK100, h⟩ := h
              refine Xi.up (pc' := 137) (st' := []) (fun _ _ k => x_callVK (ci := 10) (as := [zi (mI M91 2230 2)]) (st := []) hK93 k10_wrong lm10_69 dX10_readsChoose_134 rfl (by decide) (zs8 rfl) h0.1 ⟨_, _, rfl⟩ hc101 k) ?_
              refine Xi.up (pc' := 138) (fun _ _ k => x_aload_n dX10_readsChoose_137 rfl rfl k) ?_
              refine Xi.up (pc' := 140) (fun _ _ k => x_bipush dX10_readsChoose_138 (show inR 44 from ⟨by decide, by decide⟩) (by decide) k) ?_
              obtain ⟨x103, M102, hc105, hK104, h⟩ := h
              refine Xi.up (pc' := 143) (st' := [zi x103]) (fun _ _ k => x_callVK (ci := 10) (as := [zi 44]) (st := []) hK100 k10_takes lm10_65 dX10_readsChoose_140 rfl (by decide) (zs8 rfl) h0.1 ⟨_, _, rfl⟩ hc105 k) ?_
              refine Xi.up (pc' := 145) (L' := [some (zr 2230), some (zi a1), some (zi x20), some (zi x20), some (zi (l4 + 1)), some (zi x103), some (zi x16), some (zi x20)]) (fun _ _ k => x_istore dX10_readsChoose_143 (by decide) rfl k) ?_
              refine Xi.up (pc' := 45) (fun _ _ k => x_goto dX10_readsChoose_145 rfl k) ?_
              exact Xi.up (fun _ _ k => x_less (L' := [some (zr 2230), some (zi a1), some (zi x20), some (zi x20), some (zi (l4 + 1)), some (zi x103), none, none]) (⟨rfl, ⟨rfl, ⟨rfl, ⟨rfl, ⟨rfl, ⟨rfl, trivial⟩⟩⟩⟩⟩⟩) k) h
        · have h := h.2 c
          refine Xi.up (pc' := 93) (fun _ _ k => x_aload_n dX10_readsChoose_92 rfl rfl k) ?_
          refine Xi.up (pc' := 96) (fun _ _ k => x_getIK hK21 lf10_58 rfl dX10_readsChoose_93 h0.1 k) ?_
          refine Xi.br (tgt := 107) (pc' := 99) (0 ≤ (mI M19 2230 3)) (fun _ _ kt kf => x_if_ge dX10_readsChoose_96 rfl kt kf) (fun c => ?_) (fun c => ?_)
          · have h := h.1 c
            refine Xi.up (pc' := 109) (fun _ _ k => x_iload dX10_readsChoose_107 rfl k) ?_
            refine Xi.up (pc' := 110) (L' := [some (zr 2230), some (zi a1), some (zi x20), some (zi x20), some (zi l4), some (zi l5), some (zi x16), some (zi x20)]) (fun _ _ k => x_istore_n dX10_readsChoose_109 rfl (by decide) rfl k) ?_
            obtain ⟨g106, h⟩ := h
            refine Xi.up (pc' := 113) (L' := [some (zr 2230), some (zi a1), some (zi x20), some (zi x20), some (zi (l4 + 1)), some (zi l5), some (zi x16), some (zi x20)]) (fun _ _ k => x_iinc dX10_readsChoose_110 rfl g106 (by decide) rfl k) ?_
            refine Xi.up (pc' := 115) (fun _ _ k => x_iload dX10_readsChoose_113 rfl k) ?_
            refine Xi.up (pc' := 117) (fun _ _ k => x_bipush dX10_readsChoose_115 (show inR 6 from ⟨by decide, by decide⟩) (by decide) k) ?_
            refine Xi.br (tgt := 137) (pc' := 120) ((l4 + 1) ≠ 6) (fun _ _ kt kf => x_icmp_ne dX10_readsChoose_117 rfl kt kf) (fun c => ?_) (fun c => ?_)
            · have h := h.1 c
              refine Xi.up (pc' := 138) (fun _ _ k => x_aload_n dX10_readsChoose_137 rfl rfl k) ?_
              refine Xi.up (pc' := 140) (fun _ _ k => x_bipush dX10_readsChoose_138 (show inR 44 from ⟨by decide, by decide⟩) (by decide) k) ?_
              obtain ⟨x108, M107, hc110, hK109, h⟩ := h
              refine Xi.up (pc' := 143) (st' := [zi x108]) (fun _ _ k => x_callVK (ci := 10) (as := [zi 44]) (st := []) hK21 k10_takes lm10_65 dX10_readsChoose_140 rfl (by decide) (zs8 rfl) h0.1 ⟨_, _, rfl⟩ hc110 k) ?_
              refine Xi.up (pc' := 145) (L' := [some (zr 2230), some (zi a1), some (zi x20), some (zi x20), some (zi (l4 + 1)), some (zi x108), some (zi x16), some (zi x20)]) (fun _ _ k => x_istore dX10_readsChoose_143 (by decide) rfl k) ?_
              refine Xi.up (pc' := 45) (fun _ _ k => x_goto dX10_readsChoose_145 rfl k) ?_
              exact Xi.up (fun _ _ k => x_less (L' := [some (zr 2230), some (zi a1), some (zi x20), some (zi x20), some (zi (l4 + 1)), some (zi x108), none, none]) (⟨rfl, ⟨rfl, ⟨rfl, ⟨rfl, ⟨rfl, ⟨rfl, trivial⟩⟩⟩⟩⟩⟩) k) h
            · have h := h.2 c
              refine Xi.up (pc' := 121) (fun _ _ k => x_aload_n dX10_readsChoose_120 rfl rfl k) ?_
              obtain ⟨x112, M111, hc114, hK113, h⟩ := h
              refine Xi.up (pc' := 124) (st' := [zi x112]) (fun _ _ k => x_callVK (ci := 10) (as := []) (st := []) hK21 k10_peek lm10_61 dX10_readsChoose_121 rfl (by decide) (zs8 rfl) h0.1 ⟨_, _, rfl⟩ hc114 k) ?_
              refine Xi.up (pc' := 126) (fun _ _ k => x_bipush dX10_readsChoose_124 (show inR 44 from ⟨by decide, by decide⟩) (by decide) k) ?_
              refine Xi.br (tgt := 137) (pc' := 129) (x112 ≠ 44) (fun _ _ kt kf => x_icmp_ne dX10_readsChoose_126 rfl kt kf) (fun c => ?_) (fun c => ?_)
              · have h := h.1 c
                refine Xi.up (pc' := 138) (fun _ _ k => x_aload_n dX10_readsChoose_137 rfl rfl k) ?_
                refine Xi.up (pc' := 140) (fun _ _ k => x_bipush dX10_readsChoose_138 (show inR 44 from ⟨by decide, by decide⟩) (by decide) k) ?_
                obtain ⟨x116, M115, hc118, hK117, h⟩ := h
                refine Xi.up (pc' := 143) (st' := [zi x116]) (fun _ _ k => x_callVK (ci := 10) (as := [zi 44]) (st := []) hK113 k10_takes lm10_65 dX10_readsChoose_140 rfl (by decide) (zs8 rfl) h0.1 ⟨_, _, rfl⟩ hc118 k) ?_
                refine Xi.up (pc' := 145) (L' := [some (zr 2230), some (zi a1), some (zi x20), some (zi x20), some (zi (l4 + 1)), some (zi x116), some (zi x16), some (zi x20)]) (fun _ _ k => x_istore dX10_readsChoose_143 (by decide) rfl k) ?_
                refine Xi.up (pc' := 45) (fun _ _ k => x_goto dX10_readsChoose_145 rfl k) ?_
                exact Xi.up (fun _ _ k => x_less (L' := [some (zr 2230), some (zi a1), some (zi x20), some (zi x20), some (zi (l4 + 1)), some (zi x116), none, none]) (⟨rfl, ⟨rfl, ⟨rfl, ⟨rfl, ⟨rfl, ⟨rfl, trivial⟩⟩⟩⟩⟩⟩) k) h
              · have h := h.2 c
                refine Xi.up (pc' := 130) (fun _ _ k => x_aload_n dX10_readsChoose_129 rfl rfl k) ?_
                refine Xi.up (pc' := 131) (fun _ _ k => x_aload_n dX10_readsChoose_130 rfl rfl k) ?_
                refine Xi.up (pc' := 134) (fun _ _ k => x_getIK hK113 lf10_51 rfl dX10_readsChoose_131 h0.1 k) ?_
                obtain ⟨M119, hc121, hK120, h⟩ := h
                refine Xi.up (pc' := 137) (st' := []) (fun _ _ k => x_callVK (ci := 10) (as := [zi (mI M111 2230 2)]) (st := []) hK113 k10_wrong lm10_69 dX10_readsChoose_134 rfl (by decide) (zs8 rfl) h0.1 ⟨_, _, rfl⟩ hc121 k) ?_
                refine Xi.up (pc' := 138) (fun _ _ k => x_aload_n dX10_readsChoose_137 rfl rfl k) ?_
                refine Xi.up (pc' := 140) (fun _ _ k => x_bipush dX10_readsChoose_138 (show inR 44 from ⟨by decide, by decide⟩) (by decide) k) ?_
                obtain ⟨x123, M122, hc125, hK124, h⟩ := h
                refine Xi.up (pc' := 143) (st' := [zi x123]) (fun _ _ k => x_callVK (ci := 10) (as := [zi 44]) (st := []) hK120 k10_takes lm10_65 dX10_readsChoose_140 rfl (by decide) (zs8 rfl) h0.1 ⟨_, _, rfl⟩ hc125 k) ?_
                refine Xi.up (pc' := 145) (L' := [some (zr 2230), some (zi a1), some (zi x20), some (zi x20), some (zi (l4 + 1)), some (zi x123), some (zi x16), some (zi x20)]) (fun _ _ k => x_istore dX10_readsChoose_143 (by decide) rfl k) ?_
                refine Xi.up (pc' := 45) (fun _ _ k => x_goto dX10_readsChoose_145 rfl k) ?_
                exact Xi.up (fun _ _ k => x_less (L' := [some (zr 2230), some (zi a1), some (zi x20), some (zi x20), some (zi (l4 + 1)), some (zi x123), none, none]) (⟨rfl, ⟨rfl, ⟨rfl, ⟨rfl, ⟨rfl, ⟨rfl, trivial⟩⟩⟩⟩⟩⟩) k) h
          · have h := h.2 c
            refine Xi.up (pc' := 100) (fun _ _ k => x_aload_n dX10_readsChoose_99 rfl rfl k) ?_
            refine Xi.up (pc' := 103) (fun _ _ k => x_getRK hK21 lf10_26 rfl dX10_readsChoose_100 h0.1 h0.2.2.2.2.2.2.1 k) ?_
            refine Xi.up (pc' := 104) (fun _ _ k => x_iload_n dX10_readsChoose_103 rfl rfl k) ?_
            refine Xi.up (pc' := 106) (fun _ _ k => x_iload dX10_readsChoose_104 rfl k) ?_
            obtain ⟨g126, h⟩ := h
            obtain ⟨g127, h⟩ := h
            refine Xi.up (pc' := 107) (fun _ _ k => x_iastoreK hK21 dX10_readsChoose_106 h0.2.2.2.2.2.2.2.2.2.2.2.2.2.2.2.2.1 g126 g127 k) ?_
            have hK128 := KW.sI hK21 2236 l3.toNat x20
            refine Xi.up (pc' := 109) (fun _ _ k => x_iload dX10_readsChoose_107 rfl k) ?_
            refine Xi.up (pc' := 110) (L' := [some (zr 2230), some (zi a1), some (zi x20), some (zi x20), some (zi l4), some (zi l5), some (zi x16), some (zi x20)]) (fun _ _ k => x_istore_n dX10_readsChoose_109 rfl (by decide) rfl k) ?_
            obtain ⟨g129, h⟩ := h
            refine Xi.up (pc' := 113) (L' := [some (zr 2230), some (zi a1), some (zi x20), some (zi x20), some (zi (l4 + 1)), some (zi l5), some (zi x16), some (zi x20)]) (fun _ _ k => x_iinc dX10_readsChoose_110 rfl g129 (by decide) rfl k) ?_
            refine Xi.up (pc' := 115) (fun _ _ k => x_iload dX10_readsChoose_113 rfl k) ?_
            refine Xi.up (pc' := 117) (fun _ _ k => x_bipush dX10_readsChoose_115 (show inR 6 from ⟨by decide, by decide⟩) (by decide) k) ?_
            refine Xi.br (tgt := 137) (pc' := 120) ((l4 + 1) ≠ 6) (fun _ _ kt kf => x_icmp_ne dX10_readsChoose_117 rfl kt kf) (fun c => ?_) (fun c => ?_)
            · have h := h.1 c
              refine Xi.up (pc' := 138) (fun _ _ k => x_aload_n dX10_readsChoose_137 rfl rfl k) ?_
              refine Xi.up (pc' := 140) (fun _ _ k => x_bipush dX10_readsChoose_138 (show inR 44 from ⟨by decide, by decide⟩) (by decide) k) ?_
              obtain ⟨x131, M130, hc133, hK132, h⟩ := h
              refine Xi.up (pc' := 143) (st' := [zi x131]) (fun _ _ k => x_callVK (ci := 10) (as := [zi 44]) (st := []) hK128 k10_takes lm10_65 dX10_readsChoose_140 rfl (by decide) (zs8 rfl) h0.1 ⟨_, _, rfl⟩ hc133 k) ?_
              refine Xi.up (pc' := 145) (L' := [some (zr 2230), some (zi a1), some (zi x20), some (zi x20), some (zi (l4 + 1)), some (zi x131), some (zi x16), some (zi x20)]) (fun _ _ k => x_istore dX10_readsChoose_143 (by decide) rfl k) ?_
              refine Xi.up (pc' := 45) (fun _ _ k => x_goto dX10_readsChoose_145 rfl k) ?_
              exact Xi.up (fun _ _ k => x_less (L' := [some (zr 2230), some (zi a1), some (zi x20), some (zi x20), some (zi (l4 + 1)), some (zi x131), none, none]) (⟨rfl, ⟨rfl, ⟨rfl, ⟨rfl, ⟨rfl, ⟨rfl, trivial⟩⟩⟩⟩⟩⟩) k) h
            · have h := h.2 c
              refine Xi.up (pc' := 121) (fun _ _ k => x_aload_n dX10_readsChoose_120 rfl rfl k) ?_
              obtain ⟨x135, M134, hc137, hK136, h⟩ := h
              refine Xi.up (pc' := 124) (st' := [zi x135]) (fun _ _ k => x_callVK (ci := 10) (as := []) (st := []) hK128 k10_peek lm10_61 dX10_readsChoose_121 rfl (by decide) (zs8 rfl) h0.1 ⟨_, _, rfl⟩ hc137 k) ?_
              refine Xi.up (pc' := 126) (fun _ _ k => x_bipush dX10_readsChoose_124 (show inR 44 from ⟨by decide, by decide⟩) (by decide) k) ?_
              refine Xi.br (tgt := 137) (pc' := 129) (x135 ≠ 44) (fun _ _ kt kf => x_icmp_ne dX10_readsChoose_126 rfl kt kf) (fun c => ?_) (fun c => ?_)
              · have h := h.1 c
                refine Xi.up (pc' := 138) (fun _ _ k => x_aload_n dX10_readsChoose_137 rfl rfl k) ?_
                refine Xi.up (pc' := 140) (fun _ _ k => x_bipush dX10_readsChoose_138 (show inR 44 from ⟨by decide, by decide⟩) (by decide) k) ?_
                obtain ⟨x139, M138, hc141, hK140, h⟩ := h
                refine Xi.up (pc' := 143) (st' := [zi x139]) (fun _ _ k => x_callVK (ci := 10) (as := [zi 44]) (st := []) hK136 k10_takes lm10_65 dX10_readsChoose_140 rfl (by decide) (zs8 rfl) h0.1 ⟨_, _, rfl⟩ hc141 k) ?_
                refine Xi.up (pc' := 145) (L' := [some (zr 2230), some (zi a1), some (zi x20), some (zi x20), some (zi (l4 + 1)), some (zi x139), some (zi x16), some (zi x20)]) (fun _ _ k => x_istore dX10_readsChoose_143 (by decide) rfl k) ?_
                refine Xi.up (pc' := 45) (fun _ _ k => x_goto dX10_readsChoose_145 rfl k) ?_
                exact Xi.up (fun _ _ k => x_less (L' := [some (zr 2230), some (zi a1), some (zi x20), some (zi x20), some (zi (l4 + 1)), some (zi x139), none, none]) (⟨rfl, ⟨rfl, ⟨rfl, ⟨rfl, ⟨rfl, ⟨rfl, trivial⟩⟩⟩⟩⟩⟩) k) h
              · have h := h.2 c
                refine Xi.up (pc' := 130) (fun _ _ k => x_aload_n dX10_readsChoose_129 rfl rfl k) ?_
                refine Xi.up (pc' := 131) (fun _ _ k => x_aload_n dX10_readsChoose_130 rfl rfl k) ?_
                refine Xi.up (pc' := 134) (fun _ _ k => x_getIK hK136 lf10_51 rfl dX10_readsChoose_131 h0.1 k) ?_
                obtain ⟨M142, hc144, hK143, h⟩ := h
                refine Xi.up (pc' := 137) (st' := []) (fun _ _ k => x_callVK (ci := 10) (as := [zi (mI M134 2230 2)]) (st := []) hK136 k10_wrong lm10_69 dX10_readsChoose_134 rfl (by decide) (zs8 rfl) h0.1 ⟨_, _, rfl⟩ hc144 k) ?_
                refine Xi.up (pc' := 138) (fun _ _ k => x_aload_n dX10_readsChoose_137 rfl rfl k) ?_
                refine Xi.up (pc' := 140) (fun _ _ k => x_bipush dX10_readsChoose_138 (show inR 44 from ⟨by decide, by decide⟩) (by decide) k) ?_
                obtain ⟨x146, M145, hc148, hK147, h⟩ := h
                refine Xi.up (pc' := 143) (st' := [zi x146]) (fun _ _ k => x_callVK (ci := 10) (as := [zi 44]) (st := []) hK143 k10_takes lm10_65 dX10_readsChoose_140 rfl (by decide) (zs8 rfl) h0.1 ⟨_, _, rfl⟩ hc148 k) ?_
                refine Xi.up (pc' := 145) (L' := [some (zr 2230), some (zi a1), some (zi x20), some (zi x20), some (zi (l4 + 1)), some (zi x146), some (zi x16), some (zi x20)]) (fun _ _ k => x_istore dX10_readsChoose_143 (by decide) rfl k) ?_
                refine Xi.up (pc' := 45) (fun _ _ k => x_goto dX10_readsChoose_145 rfl k) ?_
                exact Xi.up (fun _ _ k => x_less (L' := [some (zr 2230), some (zi a1), some (zi x20), some (zi x20), some (zi (l4 + 1)), some (zi x146), none, none]) (⟨rfl, ⟨rfl, ⟨rfl, ⟨rfl, ⟨rfl, ⟨rfl, trivial⟩⟩⟩⟩⟩⟩) k) h
set_option maxHeartbeats 4000000 in
set_option maxRecDepth 20000 in
theorem B10_opens {d : Nat} {K M : ZMem} {Q : Int → ZMem → Prop} (a1 : Int) (hK : KW K M) (h0 : ModelAt K 2230) (h : ((0 ≤ (mI M 2230 3) → (Cv d q10_wants [zr 2230, zi a1] M (fun M1 => KW K M1 ∧ (inR ((mI M1 2230 4) + 1)) ∧ ((0 ≤ (mI (sI M1 2230 4 ((mI M1 2230 4) + 1)) 2230 3) → (Q 0 (sI M1 2230 4 ((mI M1 2230 4) + 1)))) ∧ (¬ (0 ≤ (mI (sI M1 2230 4 ((mI M1 2230 4) + 1)) 2230 3)) → (Q 1 (sI M1 2230 4 ((mI M1 2230 4) + 1)))))))) ∧ (¬ (0 ≤ (mI M 2230 3)) → (Ci d q10_peek [zr 2230] M (fun x7 M6 => KW K M6 ∧ ((x7 ≠ a1 → (Cv d q10_wants [zr 2230, zi a1] M6 (fun M10 => KW K M10 ∧ (inR ((mI M10 2230 4) + 1)) ∧ ((0 ≤ (mI (sI M10 2230 4 ((mI M10 2230 4) + 1)) 2230 3) → (Q 0 (sI M10 2230 4 ((mI M10 2230 4) + 1)))) ∧ (¬ (0 ≤ (mI (sI M10 2230 4 ((mI M10 2230 4) + 1)) 2230 3)) → (Q 1 (sI M10 2230 4 ((mI M10 2230 4) + 1)))))))) ∧ (¬ (x7 ≠ a1) → (((mI M6 2230 4) ≠ 6 → (Cv d q10_wants [zr 2230, zi a1] M6 (fun M15 => KW K M15 ∧ (inR ((mI M15 2230 4) + 1)) ∧ ((0 ≤ (mI (sI M15 2230 4 ((mI M15 2230 4) + 1)) 2230 3) → (Q 0 (sI M15 2230 4 ((mI M15 2230 4) + 1)))) ∧ (¬ (0 ≤ (mI (sI M15 2230 4 ((mI M15 2230 4) + 1)) 2230 3)) → (Q 1 (sI M15 2230 4 ((mI M15 2230 4) + 1)))))))) ∧ (¬ ((mI M6 2230 4) ≠ 6) → (Cv d q10_wrong [zr 2230, zi (mI M6 2230 2)] M6 (fun M20 => KW K M20 ∧ Cv d q10_wants [zr 2230, zi a1] M20 (fun M23 => KW K M23 ∧ (inR ((mI M23 2230 4) + 1)) ∧ ((0 ≤ (mI (sI M23 2230 4 ((mI M23 2230 4) + 1)) 2230 3) → (Q 0 (sI M23 2230 4 ((mI M23 2230 4) + 1)))) ∧ (¬ (0 ≤ (mI (sI M23 2230 4 ((mI M23 2230 4) + 1)) 2230 3)) → (Q 1 (sI M23 2230 4 ((mI M23 2230 4) + 1))))))))))))))))) : Ci (d + 1) q10_opens [zr 2230, zi a1] M Q := by
  refine Ci.of rfl rfl (Nat.le_of_ble_eq_true rfl) (fun w hw x e => by subst e; simp at hw) (L := [some (zr 2230), some (zi a1)]) rfl ?_
  refine Xi.up (pc' := 1) (fun _ _ k => x_aload_n dX10_opens_0 rfl rfl k) ?_
  refine Xi.up (pc' := 4) (fun _ _ k => x_getIK hK lf10_58 rfl dX10_opens_1 h0.1 k) ?_
  refine Xi.br (tgt := 32) (pc' := 7) (0 ≤ (mI M 2230 3)) (fun _ _ kt kf => x_if_ge dX10_opens_4 rfl kt kf) (fun c => ?_) (fun c => ?_)
  · have h := h.1 c
    refine Xi.up (pc' := 33) (fun _ _ k => x_aload_n dX10_opens_32 rfl rfl k) ?_
    refine Xi.up (pc' := 34) (fun _ _ k => x_iload_n dX10_opens_33 rfl rfl k) ?_
    obtain ⟨M1, hc3, hK2, h⟩ := h
    refine Xi.up (pc' := 37) (st' := []) (fun _ _ k => x_callVK (ci := 10) (as := [zi a1]) (st := []) hK k10_wants lm10_125 dX10_opens_34 rfl (by decide) (zs8 rfl) h0.1 ⟨_, _, rfl⟩ hc3 k) ?_
    refine Xi.up (pc' := 38) (fun _ _ k => x_aload_n dX10_opens_37 rfl rfl k) ?_
    refine Xi.up (pc' := 39) (fun _ _ k => x_dupR dX10_opens_38 k) ?_
    refine Xi.up (pc' := 42) (fun _ _ k => x_getIK hK2 lf10_128 rfl dX10_opens_39 h0.1 k) ?_
    refine Xi.up (pc' := 43) (fun _ _ k => x_iconst dX10_opens_42 (show inR 1 from ⟨by decide, by decide⟩) k) ?_
    obtain ⟨g4, h⟩ := h
    refine Xi.up (pc' := 44) (fun _ _ k => x_iadd dX10_opens_43 g4 k) ?_
    refine Xi.up (pc' := 47) (fun _ _ k => x_putIK hK2 lf10_128 rfl rfl (Or.inl rfl) dX10_opens_44 h0.1 k) ?_
    have hK5 := KW.sI hK2 2230 4 ((mI M1 2230 4) + 1)
    refine Xi.up (pc' := 48) (fun _ _ k => x_aload_n dX10_opens_47 rfl rfl k) ?_
    refine Xi.up (pc' := 51) (fun _ _ k => x_getIK hK5 lf10_58 rfl dX10_opens_48 h0.1 k) ?_
    refine Xi.br (tgt := 58) (pc' := 54) (0 ≤ (mI (sI M1 2230 4 ((mI M1 2230 4) + 1)) 2230 3)) (fun _ _ kt kf => x_if_ge dX10_opens_51 rfl kt kf) (fun c => ?_) (fun c => ?_)
    · have h := h.1 c
      refine Xi.up (pc' := 59) (fun _ _ k => x_iconst dX10_opens_58 (show inR 0 from ⟨by decide, by decide⟩) k) ?_
      exact Xi.ret ⟨dX10_opens_59, Or.inr ⟨rfl, Or.inl rfl⟩⟩ h
    · have h := h.2 c
      refine Xi.up (pc' := 55) (fun _ _ k => x_iconst dX10_opens_54 (show inR 1 from ⟨by decide, by decide⟩) k) ?_
      refine Xi.up (pc' := 59) (fun _ _ k => x_goto dX10_opens_55 rfl k) ?_
      exact Xi.ret ⟨dX10_opens_59, Or.inr ⟨rfl, Or.inr rfl⟩⟩ h
  · have h := h.2 c
    refine Xi.up (pc' := 8) (fun _ _ k => x_aload_n dX10_opens_7 rfl rfl k) ?_
    obtain ⟨x7, M6, hc9, hK8, h⟩ := h
    refine Xi.up (pc' := 11) (st' := [zi x7]) (fun _ _ k => x_callVK (ci := 10) (as := []) (st := []) hK k10_peek lm10_61 dX10_opens_8 rfl (by decide) (zs8 rfl) h0.1 ⟨_, _, rfl⟩ hc9 k) ?_
    refine Xi.up (pc' := 12) (fun _ _ k => x_iload_n dX10_opens_11 rfl rfl k) ?_
    refine Xi.br (tgt := 32) (pc' := 15) (x7 ≠ a1) (fun _ _ kt kf => x_icmp_ne dX10_opens_12 rfl kt kf) (fun c => ?_) (fun c => ?_)
    · have h := h.1 c
      refine Xi.up (pc' := 33) (fun _ _ k => x_aload_n dX10_opens_32 rfl rfl k) ?_
      refine Xi.up (pc' := 34) (fun _ _ k => x_iload_n dX10_opens_33 rfl rfl k) ?_
      obtain ⟨M10, hc12, hK11, h⟩ := h
      refine Xi.up (pc' := 37) (st' := []) (fun _ _ k => x_callVK (ci := 10) (as := [zi a1]) (st := []) hK8 k10_wants lm10_125 dX10_opens_34 rfl (by decide) (zs8 rfl) h0.1 ⟨_, _, rfl⟩ hc12 k) ?_
      refine Xi.up (pc' := 38) (fun _ _ k => x_aload_n dX10_opens_37 rfl rfl k) ?_
      refine Xi.up (pc' := 39) (fun _ _ k => x_dupR dX10_opens_38 k) ?_
      refine Xi.up (pc' := 42) (fun _ _ k => x_getIK hK11 lf10_128 rfl dX10_opens_39 h0.1 k) ?_
      refine Xi.up (pc' := 43) (fun _ _ k => x_iconst dX10_opens_42 (show inR 1 from ⟨by decide, by decide⟩) k) ?_
      obtain ⟨g13, h⟩ := h
      refine Xi.up (pc' := 44) (fun _ _ k => x_iadd dX10_opens_43 g13 k) ?_
      refine Xi.up (pc' := 47) (fun _ _ k => x_putIK hK11 lf10_128 rfl rfl (Or.inl rfl) dX10_opens_44 h0.1 k) ?_
      have hK14 := KW.sI hK11 2230 4 ((mI M10 2230 4) + 1)
      refine Xi.up (pc' := 48) (fun _ _ k => x_aload_n dX10_opens_47 rfl rfl k) ?_
      refine Xi.up (pc' := 51) (fun _ _ k => x_getIK hK14 lf10_58 rfl dX10_opens_48 h0.1 k) ?_
      refine Xi.br (tgt := 58) (pc' := 54) (0 ≤ (mI (sI M10 2230 4 ((mI M10 2230 4) + 1)) 2230 3)) (fun _ _ kt kf => x_if_ge dX10_opens_51 rfl kt kf) (fun c => ?_) (fun c => ?_)
      · have h := h.1 c
        refine Xi.up (pc' := 59) (fun _ _ k => x_iconst dX10_opens_58 (show inR 0 from ⟨by decide, by decide⟩) k) ?_
        exact Xi.ret ⟨dX10_opens_59, Or.inr ⟨rfl, Or.inl rfl⟩⟩ h
      · have h := h.2 c
        refine Xi.up (pc' := 55) (fun _ _ k => x_iconst dX10_opens_54 (show inR 1 from ⟨by decide, by decide⟩) k) ?_
        refine Xi.up (pc' := 59) (fun _ _ k => x_goto dX10_opens_55 rfl k) ?_
        exact Xi.ret ⟨dX10_opens_59, Or.inr ⟨rfl, Or.inr rfl⟩⟩ h
    · have h := h.2 c
      refine Xi.up (pc' := 16) (fun _ _ k => x_aload_n dX10_opens_15 rfl rfl k) ?_
      refine Xi.up (pc' := 19) (fun _ _ k => x_getIK hK8 lf10_128 rfl dX10_opens_16 h0.1 k) ?_
      refine Xi.up (pc' := 21) (fun _ _ k => x_bipush dX10_opens_19 (show inR 6 from ⟨by decide, by decide⟩) (by decide) k) ?_
      refine Xi.br (tgt := 32) (pc' := 24) ((mI M6 2230 4) ≠ 6) (fun _ _ kt kf => x_icmp_ne dX10_opens_21 rfl kt kf) (fun c => ?_) (fun c => ?_)
      · have h := h.1 c
        refine Xi.up (pc' := 33) (fun _ _ k => x_aload_n dX10_opens_32 rfl rfl k) ?_
        refine Xi.up (pc' := 34) (fun _ _ k => x_iload_n dX10_opens_33 rfl rfl k) ?_
        obtain ⟨M15, hc17, hK16, h⟩ := h
        refine Xi.up (pc' := 37) (st' := []) (fun _ _ k => x_callVK (ci := 10) (as := [zi a1]) (st := []) hK8 k10_wants lm10_125 dX10_opens_34 rfl (by decide) (zs8 rfl) h0.1 ⟨_, _, rfl⟩ hc17 k) ?_
        refine Xi.up (pc' := 38) (fun _ _ k => x_aload_n dX10_opens_37 rfl rfl k) ?_
        refine Xi.up (pc' := 39) (fun _ _ k => x_dupR dX10_opens_38 k) ?_
        refine Xi.up (pc' := 42) (fun _ _ k => x_getIK hK16 lf10_128 rfl dX10_opens_39 h0.1 k) ?_
        refine Xi.up (pc' := 43) (fun _ _ k => x_iconst dX10_opens_42 (show inR 1 from ⟨by decide, by decide⟩) k) ?_
        obtain ⟨g18, h⟩ := h
        refine Xi.up (pc' := 44) (fun _ _ k => x_iadd dX10_opens_43 g18 k) ?_
        refine Xi.up (pc' := 47) (fun _ _ k => x_putIK hK16 lf10_128 rfl rfl (Or.inl rfl) dX10_opens_44 h0.1 k) ?_
        have hK19 := KW.sI hK16 2230 4 ((mI M15 2230 4) + 1)
        refine Xi.up (pc' := 48) (fun _ _ k => x_aload_n dX10_opens_47 rfl rfl k) ?_
        refine Xi.up (pc' := 51) (fun _ _ k => x_getIK hK19 lf10_58 rfl dX10_opens_48 h0.1 k) ?_
        refine Xi.br (tgt := 58) (pc' := 54) (0 ≤ (mI (sI M15 2230 4 ((mI M15 2230 4) + 1)) 2230 3)) (fun _ _ kt kf => x_if_ge dX10_opens_51 rfl kt kf) (fun c => ?_) (fun c => ?_)
        · have h := h.1 c
          refine Xi.up (pc' := 59) (fun _ _ k => x_iconst dX10_opens_58 (show inR 0 from ⟨by decide, by decide⟩) k) ?_
          exact Xi.ret ⟨dX10_opens_59, Or.inr ⟨rfl, Or.inl rfl⟩⟩ h
        · have h := h.2 c
          refine Xi.up (pc' := 55) (fun _ _ k => x_iconst dX10_opens_54 (show inR 1 from ⟨by decide, by decide⟩) k) ?_
          refine Xi.up (pc' := 59) (fun _ _ k => x_goto dX10_opens_55 rfl k) ?_
          exact Xi.ret ⟨dX10_opens_59, Or.inr ⟨rfl, Or.inr rfl⟩⟩ h
      · have h := h.2 c
        refine Xi.up (pc' := 25) (fun _ _ k => x_aload_n dX10_opens_24 rfl rfl k) ?_
        refine Xi.up (pc' := 26) (fun _ _ k => x_aload_n dX10_opens_25 rfl rfl k) ?_
        refine Xi.up (pc' := 29) (fun _ _ k => x_getIK hK8 lf10_51 rfl dX10_opens_26 h0.1 k) ?_
        obtain ⟨M20, hc22, hK21, h⟩ := h
        refine Xi.up (pc' := 32) (st' := []) (fun _ _ k => x_callVK (ci := 10) (as := [zi (mI M6 2230 2)]) (st := []) hK8 k10_wrong lm10_69 dX10_opens_29 rfl (by decide) (zs8 rfl) h0.1 ⟨_, _, rfl⟩ hc22 k) ?_
        refine Xi.up (pc' := 33) (fun _ _ k => x_aload_n dX10_opens_32 rfl rfl k) ?_
        refine Xi.up (pc' := 34) (fun _ _ k => x_iload_n dX10_opens_33 rfl rfl k) ?_
        obtain ⟨M23, hc25, hK24, h⟩ := h
        refine Xi.up (pc' := 37) (st' := []) (fun _ _ k => x_callVK (ci := 10) (as := [zi a1]) (st := []) hK21 k10_wants lm10_125 dX10_opens_34 rfl (by decide) (zs8 rfl) h0.1 ⟨_, _, rfl⟩ hc25 k) ?_
        refine Xi.up (pc' := 38) (fun _ _ k => x_aload_n dX10_opens_37 rfl rfl k) ?_
        refine Xi.up (pc' := 39) (fun _ _ k => x_dupR dX10_opens_38 k) ?_
        refine Xi.up (pc' := 42) (fun _ _ k => x_getIK hK24 lf10_128 rfl dX10_opens_39 h0.1 k) ?_
        refine Xi.up (pc' := 43) (fun _ _ k => x_iconst dX10_opens_42 (show inR 1 from ⟨by decide, by decide⟩) k) ?_
        obtain ⟨g26, h⟩ := h
        refine Xi.up (pc' := 44) (fun _ _ k => x_iadd dX10_opens_43 g26 k) ?_
        refine Xi.up (pc' := 47) (fun _ _ k => x_putIK hK24 lf10_128 rfl rfl (Or.inl rfl) dX10_opens_44 h0.1 k) ?_
        have hK27 := KW.sI hK24 2230 4 ((mI M23 2230 4) + 1)
        refine Xi.up (pc' := 48) (fun _ _ k => x_aload_n dX10_opens_47 rfl rfl k) ?_
        refine Xi.up (pc' := 51) (fun _ _ k => x_getIK hK27 lf10_58 rfl dX10_opens_48 h0.1 k) ?_
        refine Xi.br (tgt := 58) (pc' := 54) (0 ≤ (mI (sI M23 2230 4 ((mI M23 2230 4) + 1)) 2230 3)) (fun _ _ kt kf => x_if_ge dX10_opens_51 rfl kt kf) (fun c => ?_) (fun c => ?_)
        · have h := h.1 c
          refine Xi.up (pc' := 59) (fun _ _ k => x_iconst dX10_opens_58 (show inR 0 from ⟨by decide, by decide⟩) k) ?_
          exact Xi.ret ⟨dX10_opens_59, Or.inr ⟨rfl, Or.inl rfl⟩⟩ h
        · have h := h.2 c
          refine Xi.up (pc' := 55) (fun _ _ k => x_iconst dX10_opens_54 (show inR 1 from ⟨by decide, by decide⟩) k) ?_
          refine Xi.up (pc' := 59) (fun _ _ k => x_goto dX10_opens_55 rfl k) ?_
          exact Xi.ret ⟨dX10_opens_59, Or.inr ⟨rfl, Or.inr rfl⟩⟩ h
set_option maxHeartbeats 4000000 in
set_option maxRecDepth 20000 in
theorem B10_readsBrackets {d : Nat} {K M : ZMem} {Q : Int → ZMem → Prop} (a1 : Int) (a2 : Int) (hK : KW K M) (h0 : ModelAt K 2230) (h : Ci d q10_opens [zr 2230, zi a1] M (fun x2 M1 => KW K M1 ∧ ((x2 ≠ 0 → (Ci d q10_readsProgram [zr 2230] M1 (fun x6 M5 => KW K M5 ∧ Cv d q10_wants [zr 2230, zi a2] M5 (fun M9 => KW K M9 ∧ (inR ((mI M9 2230 4) - 1)) ∧ Q x6 (sI M9 2230 4 ((mI M9 2230 4) - 1)))))) ∧ (¬ (x2 ≠ 0) → (Q 0 M1))))) : Ci (d + 1) q10_readsBrackets [zr 2230, zi a1, zi a2] M Q := by
  refine Ci.of rfl rfl (Nat.le_of_ble_eq_true rfl) (fun w hw x e => by subst e; simp at hw) (L := [some (zr 2230), some (zi a1), some (zi a2), none]) rfl ?_
  refine Xi.up (pc' := 1) (fun _ _ k => x_aload_n dX10_readsBrackets_0 rfl rfl k) ?_
  refine Xi.up (pc' := 2) (fun _ _ k => x_iload_n dX10_readsBrackets_1 rfl rfl k) ?_
  obtain ⟨x2, M1, hc4, hK3, h⟩ := h
  refine Xi.up (pc' := 5) (st' := [zi x2]) (fun _ _ k => x_callVK (ci := 10) (as := [zi a1]) (st := []) hK k10_opens lm10_131 dX10_readsBrackets_2 rfl (by decide) (zs8 rfl) h0.1 ⟨_, _, rfl⟩ hc4 k) ?_
  refine Xi.br (tgt := 10) (pc' := 8) (x2 ≠ 0) (fun _ _ kt kf => x_if_ne dX10_readsBrackets_5 rfl kt kf) (fun c => ?_) (fun c => ?_)
  · have h := h.1 c
    refine Xi.up (pc' := 11) (fun _ _ k => x_aload_n dX10_readsBrackets_10 rfl rfl k) ?_
    obtain ⟨x6, M5, hc8, hK7, h⟩ := h
    refine Xi.up (pc' := 14) (st' := [zi x6]) (fun _ _ k => x_callVK (ci := 10) (as := []) (st := []) hK3 k10_readsProgram lm10_134 dX10_readsBrackets_11 rfl (by decide) (zs8 rfl) h0.1 ⟨_, _, rfl⟩ hc8 k) ?_
    refine Xi.up (pc' := 15) (L' := [some (zr 2230), some (zi a1), some (zi a2), some (zi x6)]) (fun _ _ k => x_istore_n dX10_readsBrackets_14 rfl (by decide) rfl k) ?_
    refine Xi.up (pc' := 16) (fun _ _ k => x_aload_n dX10_readsBrackets_15 rfl rfl k) ?_
    refine Xi.up (pc' := 17) (fun _ _ k => x_iload_n dX10_readsBrackets_16 rfl rfl k) ?_
    obtain ⟨M9, hc11, hK10, h⟩ := h
    refine Xi.up (pc' := 20) (st' := []) (fun _ _ k => x_callVK (ci := 10) (as := [zi a2]) (st := []) hK7 k10_wants lm10_125 dX10_readsBrackets_17 rfl (by decide) (zs8 rfl) h0.1 ⟨_, _, rfl⟩ hc11 k) ?_
    refine Xi.up (pc' := 21) (fun _ _ k => x_aload_n dX10_readsBrackets_20 rfl rfl k) ?_
    refine Xi.up (pc' := 22) (fun _ _ k => x_dupR dX10_readsBrackets_21 k) ?_
    refine Xi.up (pc' := 25) (fun _ _ k => x_getIK hK10 lf10_128 rfl dX10_readsBrackets_22 h0.1 k) ?_
    refine Xi.up (pc' := 26) (fun _ _ k => x_iconst dX10_readsBrackets_25 (show inR 1 from ⟨by decide, by decide⟩) k) ?_
    obtain ⟨g12, h⟩ := h
    refine Xi.up (pc' := 27) (fun _ _ k => x_isub dX10_readsBrackets_26 g12 k) ?_
    refine Xi.up (pc' := 30) (fun _ _ k => x_putIK hK10 lf10_128 rfl rfl (Or.inl rfl) dX10_readsBrackets_27 h0.1 k) ?_
    have hK13 := KW.sI hK10 2230 4 ((mI M9 2230 4) - 1)
    refine Xi.up (pc' := 31) (fun _ _ k => x_iload_n dX10_readsBrackets_30 rfl rfl k) ?_
    exact Xi.ret ⟨dX10_readsBrackets_31, Or.inl rfl⟩ h
  · have h := h.2 c
    refine Xi.up (pc' := 9) (fun _ _ k => x_iconst dX10_readsBrackets_8 (show inR 0 from ⟨by decide, by decide⟩) k) ?_
    exact Xi.ret ⟨dX10_readsBrackets_9, Or.inl rfl⟩ h
set_option maxHeartbeats 4000000 in
set_option maxRecDepth 20000 in
theorem B10_readsWays {d : Nat} {K M : ZMem} {Q : Int → ZMem → Prop}  (hK : KW K M) (h0 : ModelAt K 2230) (h : Ci d q10_opens [zr 2230, zi 40] M (fun x2 M1 => KW K M1 ∧ ((x2 ≠ 0 → (Xi (d + 1) q10_readsWays 20 [some (zr 2230), some (zi (-1)), some (zi (-1)), some (zi 0), some (zi 1), none, none] [] M1 Q)) ∧ (¬ (x2 ≠ 0) → (Q 0 M1))))) : Ci (d + 1) q10_readsWays [zr 2230] M Q := by
  refine Ci.of rfl rfl (Nat.le_of_ble_eq_true rfl) (fun w hw x e => by subst e; simp at hw) (L := [some (zr 2230), none, none, none, none, none, none]) rfl ?_
  refine Xi.up (pc' := 1) (fun _ _ k => x_aload_n dX10_readsWays_0 rfl rfl k) ?_
  refine Xi.up (pc' := 3) (fun _ _ k => x_bipush dX10_readsWays_1 (show inR 40 from ⟨by decide, by decide⟩) (by decide) k) ?_
  obtain ⟨x2, M1, hc4, hK3, h⟩ := h
  refine Xi.up (pc' := 6) (st' := [zi x2]) (fun _ _ k => x_callVK (ci := 10) (as := [zi 40]) (st := []) hK k10_opens lm10_131 dX10_readsWays_3 rfl (by decide) (zs8 rfl) h0.1 ⟨_, _, rfl⟩ hc4 k) ?_
  refine Xi.br (tgt := 11) (pc' := 9) (x2 ≠ 0) (fun _ _ kt kf => x_if_ne dX10_readsWays_6 rfl kt kf) (fun c => ?_) (fun c => ?_)
  · have h := h.1 c
    refine Xi.up (pc' := 12) (fun _ _ k => x_iconst dX10_readsWays_11 (show inR (-1) from ⟨by decide, by decide⟩) k) ?_
    refine Xi.up (pc' := 13) (L' := [some (zr 2230), some (zi (-1)), none, none, none, none, none]) (fun _ _ k => x_istore_n dX10_readsWays_12 rfl (by decide) rfl k) ?_
    refine Xi.up (pc' := 14) (fun _ _ k => x_iconst dX10_readsWays_13 (show inR (-1) from ⟨by decide, by decide⟩) k) ?_
    refine Xi.up (pc' := 15) (L' := [some (zr 2230), some (zi (-1)), some (zi (-1)), none, none, none, none]) (fun _ _ k => x_istore_n dX10_readsWays_14 rfl (by decide) rfl k) ?_
    refine Xi.up (pc' := 16) (fun _ _ k => x_iconst dX10_readsWays_15 (show inR 0 from ⟨by decide, by decide⟩) k) ?_
    refine Xi.up (pc' := 17) (L' := [some (zr 2230), some (zi (-1)), some (zi (-1)), some (zi 0), none, none, none]) (fun _ _ k => x_istore_n dX10_readsWays_16 rfl (by decide) rfl k) ?_
    refine Xi.up (pc' := 18) (fun _ _ k => x_iconst dX10_readsWays_17 (show inR 1 from ⟨by decide, by decide⟩) k) ?_
    refine Xi.up (pc' := 20) (L' := [some (zr 2230), some (zi (-1)), some (zi (-1)), some (zi 0), some (zi 1), none, none]) (fun _ _ k => x_istore dX10_readsWays_18 (by decide) rfl k) ?_
    exact h
  · have h := h.2 c
    refine Xi.up (pc' := 10) (fun _ _ k => x_iconst dX10_readsWays_9 (show inR 0 from ⟨by decide, by decide⟩) k) ?_
    exact Xi.ret ⟨dX10_readsWays_10, Or.inl rfl⟩ h
set_option maxHeartbeats 4000000 in
set_option maxRecDepth 20000 in
theorem B10_readsWays_20 {d : Nat} {K M : ZMem} {Q : Int → ZMem → Prop} (l1 : Int) (l2 : Int) (l3 : Int) (l4 : Int) (hK : KW K M) (h0 : ModelAt K 2230) (h : ((l4 = 0 → (Cv d q10_wants [zr 2230, zi 41] M (fun M1 => KW K M1 ∧ (inR ((mI M1 2230 4) - 1)) ∧ Ci d q10_writes [zr 2230, zi 11, zi l1, zi l3, zi 0] (sI M1 2230 4 ((mI M1 2230 4) - 1)) (fun x7 M6 => KW K M6 ∧ Q x7 M6)))) ∧ (¬ (l4 = 0) → ((0 ≤ (mI M 2230 3) → (Cv d q10_wants [zr 2230, zi 41] M (fun M10 => KW K M10 ∧ (inR ((mI M10 2230 4) - 1)) ∧ Ci d q10_writes [zr 2230, zi 11, zi l1, zi l3, zi 0] (sI M10 2230 4 ((mI M10 2230 4) - 1)) (fun x16 M15 => KW K M15 ∧ Q x16 M15)))) ∧ (¬ (0 ≤ (mI M 2230 3)) → (Ci d q10_readsProgram [zr 2230] M (fun x20 M19 => KW K M19 ∧ Ci d q10_writes [zr 2230, zi 12, zi x20, zi 0, zi 0] M19 (fun x24 M23 => KW K M23 ∧ ((l3 ≠ 0 → ((l3 ≤ 0 → ((inR (l3 + 1)) ∧ (((l3 + 1) ≠ 6 → (Ci d q10_takes [zr 2230, zi 124] M23 (fun x29 M28 => KW K M28 ∧ Xi (d + 1) q10_readsWays 20 [some (zr 2230), some (zi l1), some (zi x24), some (zi (l3 + 1)), some (zi x29), none, none] [] M28 Q))) ∧ (¬ ((l3 + 1) ≠ 6) → (Ci d q10_peek [zr 2230] M23 (fun x33 M32 => KW K M32 ∧ ((x33 ≠ 124 → (Ci d q10_takes [zr 2230, zi 124] M32 (fun x37 M36 => KW K M36 ∧ Xi (d + 1) q10_readsWays 20 [some (zr 2230), some (zi l1), some (zi x24), some (zi (l3 + 1)), some (zi x37), none, none] [] M36 Q))) ∧ (¬ (x33 ≠ 124) → (Cv d q10_wrong [zr 2230, zi (mI M32 2230 2)] M32 (fun M40 => KW K M40 ∧ Ci d q10_takes [zr 2230, zi 124] M40 (fun x44 M43 => KW K M43 ∧ Xi (d + 1) q10_readsWays 20 [some (zr 2230), some (zi l1), some (zi x24), some (zi (l3 + 1)), some (zi x44), none, none] [] M43 Q))))))))))) ∧ (¬ (l3 ≤ 0) → ((0 ≤ (mI M23 2230 3) → ((inR (l3 + 1)) ∧ (((l3 + 1) ≠ 6 → (Ci d q10_takes [zr 2230, zi 124] M23 (fun x49 M48 => KW K M48 ∧ Xi (d + 1) q10_readsWays 20 [some (zr 2230), some (zi l1), some (zi x24), some (zi (l3 + 1)), some (zi x49), none, none] [] M48 Q))) ∧ (¬ ((l3 + 1) ≠ 6) → (Ci d q10_peek [zr 2230] M23 (fun x53 M52 => KW K M52 ∧ ((x53 ≠ 124 → (Ci d q10_takes [zr 2230, zi 124] M52 (fun x57 M56 => KW K M56 ∧ Xi (d + 1) q10_readsWays 20 [some (zr 2230), some (zi l1), some (zi x24), some (zi (l3 + 1)), some (zi x57), none, none] [] M56 Q))) ∧ (¬ (x53 ≠ 124) → (Cv d q10_wrong [zr 2230, zi (mI M52 2230 2)] M52 (fun M60 => KW K M60 ∧ Ci d q10_takes [zr 2230, zi 124] M60 (fun x64 M63 => KW K M63 ∧ Xi (d + 1) q10_readsWays 20 [some (zr 2230), some (zi l1), some (zi x24), some (zi (l3 + 1)), some (zi x64), none, none] [] M63 Q))))))))))) ∧ (¬ (0 ≤ (mI M23 2230 3)) → ((0 ≤ l2) ∧ (l2 < 70200) ∧ (inR (l3 + 1)) ∧ (((l3 + 1) ≠ 6 → (Ci d q10_takes [zr 2230, zi 124] (sI M23 2236 l2.toNat x24) (fun x72 M71 => KW K M71 ∧ Xi (d + 1) q10_readsWays 20 [some (zr 2230), some (zi l1), some (zi x24), some (zi (l3 + 1)), some (zi x72), none, none] [] M71 Q))) ∧ (¬ ((l3 + 1) ≠ 6) → (Ci d q10_peek [zr 2230] (sI M23 2236 l2.toNat x24) (fun x76 M75 => KW K M75 ∧ ((x76 ≠ 124 → (Ci d q10_takes [zr 2230, zi 124] M75 (fun x80 M79 => KW K M79 ∧ Xi (d + 1) q10_readsWays 20 [some (zr 2230), some (zi l1), some (zi x24), some (zi (l3 + 1)), some (zi x80), none, none] [] M79 Q))) ∧ (¬ (x76 ≠ 124) → (Cv d q10_wrong [zr 2230, zi (mI M75 2230 2)] M75 (fun M83 => KW K M83 ∧ Ci d q10_takes [zr 2230, zi 124] M83 (fun x87 M86 => KW K M86 ∧ Xi (d + 1) q10_readsWays 20 [some (zr 2230), some (zi l1), some (zi x24), some (zi (l3 + 1)), some (zi x87), none, none] [] M86 Q))))))))))))))) ∧ (¬ (l3 ≠ 0) → ((l3 ≤ 0 → ((inR (l3 + 1)) ∧ (((l3 + 1) ≠ 6 → (Ci d q10_takes [zr 2230, zi 124] M23 (fun x92 M91 => KW K M91 ∧ Xi (d + 1) q10_readsWays 20 [some (zr 2230), some (zi x24), some (zi x24), some (zi (l3 + 1)), some (zi x92), none, none] [] M91 Q))) ∧ (¬ ((l3 + 1) ≠ 6) → (Ci d q10_peek [zr 2230] M23 (fun x96 M95 => KW K M95 ∧ ((x96 ≠ 124 → (Ci d q10_takes [zr 2230, zi 124] M95 (fun x100 M99 => KW K M99 ∧ Xi (d + 1) q10_readsWays 20 [some (zr 2230), some (zi x24), some (zi x24), some (zi (l3 + 1)), some (zi x100), none, none] [] M99 Q))) ∧ (¬ (x96 ≠ 124) → (Cv d q10_wrong [zr 2230, zi (mI M95 2230 2)] M95 (fun M103 => KW K M103 ∧ Ci d q10_takes [zr 2230, zi 124] M103 (fun x107 M106 => KW K M106 ∧ Xi (d + 1) q10_readsWays 20 [some (zr 2230), some (zi x24), some (zi x24), some (zi (l3 + 1)), some (zi x107), none, none] [] M106 Q))))))))))) ∧ (¬ (l3 ≤ 0) → ((0 ≤ (mI M23 2230 3) → ((inR (l3 + 1)) ∧ (((l3 + 1) ≠ 6 → (Ci d q10_takes [zr 2230, zi 124] M23 (fun x112 M111 => KW K M111 ∧ Xi (d + 1) q10_readsWays 20 [some (zr 2230), some (zi x24), some (zi x24), some (zi (l3 + 1)), some (zi x112), none, none] [] M111 Q))) ∧ (¬ ((l3 + 1) ≠ 6) → (Ci d q10_peek [zr 2230] M23 (fun x116 M115 => KW K M115 ∧ ((x116 ≠ 124 → (Ci d q10_takes [zr 2230, zi 124] M115 (fun x120 M119 => KW K M119 ∧ Xi (d + 1) q10_readsWays 20 [some (zr 2230), some (zi x24), some (zi x24), some (zi (l3 + 1)), some (zi x120), none, none] [] M119 Q))) ∧ (¬ (x116 ≠ 124) → (Cv d q10_wrong [zr 2230, zi (mI M115 2230 2)] M115 (fun M123 => KW K M123 ∧ Ci d q10_takes [zr 2230, zi 124] M123 (fun x127 M126 => KW K M126 ∧ Xi (d + 1) q10_readsWays 20 [some (zr 2230), some (zi x24), some (zi x24), some (zi (l3 + 1)), some (zi x127), none, none] [] M126 Q))))))))))) ∧ (¬ (0 ≤ (mI M23 2230 3)) → ((0 ≤ l2) ∧ (l2 < 70200) ∧ (inR (l3 + 1)) ∧ (((l3 + 1) ≠ 6 → (Ci d q10_takes [zr 2230, zi 124] (sI M23 2236 l2.toNat x24) (fun x135 M134 => KW K M134 ∧ Xi (d + 1) q10_readsWays 20 [some (zr 2230), some (zi x24), some (zi x24), some (zi (l3 + 1)), some (zi x135), none, none] [] M134 Q))) ∧ (¬ ((l3 + 1) ≠ 6) → (Ci d q10_peek [zr 2230] (sI M23 2236 l2.toNat x24) (fun x139 M138 => KW K M138 ∧ ((x139 ≠ 124 → (Ci d q10_takes [zr 2230, zi 124] M138 (fun x143 M142 => KW K M142 ∧ Xi (d + 1) q10_readsWays 20 [some (zr 2230), some (zi x24), some (zi x24), some (zi (l3 + 1)), some (zi x143), none, none] [] M142 Q))) ∧ (¬ (x139 ≠ 124) → (Cv d q10_wrong [zr 2230, zi (mI M138 2230 2)] M138 (fun M146 => KW K M146 ∧ Ci d q10_takes [zr 2230, zi 124] M146 (fun x150 M149 => KW K M149 ∧ Xi (d + 1) q10_readsWays 20 [some (zr 2230), some (zi x24), some (zi x24), some (zi (l3 + 1)), some (zi x150), none, none] [] M149 Q)))))))))))))))))))))))) : Xi (d + 1) q10_readsWays 20 [some (zr 2230), some (zi l1), some (zi l2), some (zi l3), some (zi l4), none, none] [] M Q := by
  refine Xi.up (pc' := 22) (fun _ _ k => x_iload dX10_readsWays_20 rfl k) ?_
  refine Xi.br (tgt := 120) (pc' := 25) (l4 = 0) (fun _ _ kt kf => x_if_eq dX10_readsWays_22 rfl kt kf) (fun c => ?_) (fun c => ?_)
  · have h := h.1 c
    refine Xi.up (pc' := 121) (fun _ _ k => x_aload_n dX10_readsWays_120 rfl rfl k) ?_
    refine Xi.up (pc' := 123) (fun _ _ k => x_bipush dX10_readsWays_121 (show inR 41 from ⟨by decide, by decide⟩) (by decide) k) ?_
    obtain ⟨M1, hc3, hK2, h⟩ := h
    refine Xi.up (pc' := 126) (st' := []) (fun _ _ k => x_callVK (ci := 10) (as := [zi 41]) (st := []) hK k10_wants lm10_125 dX10_readsWays_123 rfl (by decide) (zs8 rfl) h0.1 ⟨_, _, rfl⟩ hc3 k) ?_
    refine Xi.up (pc' := 127) (fun _ _ k => x_aload_n dX10_readsWays_126 rfl rfl k) ?_
    refine Xi.up (pc' := 128) (fun _ _ k => x_dupR dX10_readsWays_127 k) ?_
    refine Xi.up (pc' := 131) (fun _ _ k => x_getIK hK2 lf10_128 rfl dX10_readsWays_128 h0.1 k) ?_
    refine Xi.up (pc' := 132) (fun _ _ k => x_iconst dX10_readsWays_131 (show inR 1 from ⟨by decide, by decide⟩) k) ?_
    obtain ⟨g4, h⟩ := h
    refine Xi.up (pc' := 133) (fun _ _ k => x_isub dX10_readsWays_132 g4 k) ?_
    refine Xi.up (pc' := 136) (fun _ _ k => x_putIK hK2 lf10_128 rfl rfl (Or.inl rfl) dX10_readsWays_133 h0.1 k) ?_
    have hK5 := KW.sI hK2 2230 4 ((mI M1 2230 4) - 1)
    refine Xi.up (pc' := 137) (fun _ _ k => x_aload_n dX10_readsWays_136 rfl rfl k) ?_
    refine Xi.up (pc' := 139) (fun _ _ k => x_bipush dX10_readsWays_137 (show inR 11 from ⟨by decide, by decide⟩) (by decide) k) ?_
    refine Xi.up (pc' := 140) (fun _ _ k => x_iload_n dX10_readsWays_139 rfl rfl k) ?_
    refine Xi.up (pc' := 141) (fun _ _ k => x_iload_n dX10_readsWays_140 rfl rfl k) ?_
    refine Xi.up (pc' := 142) (fun _ _ k => x_iconst dX10_readsWays_141 (show inR 0 from ⟨by decide, by decide⟩) k) ?_
    obtain ⟨x7, M6, hc9, hK8, h⟩ := h
    refine Xi.up (pc' := 145) (st' := [zi x7]) (fun _ _ k => x_callVK (ci := 10) (as := [zi 11, zi l1, zi l3, zi 0]) (st := []) hK5 k10_writes lm10_87 dX10_readsWays_142 rfl (by decide) (zs8 rfl) h0.1 ⟨_, _, rfl⟩ hc9 k) ?_
    exact Xi.ret ⟨dX10_readsWays_145, Or.inl rfl⟩ h
  · have h := h.2 c
    refine Xi.up (pc' := 26) (fun _ _ k => x_aload_n dX10_readsWays_25 rfl rfl k) ?_
    refine Xi.up (pc' := 29) (fun _ _ k => x_getIK hK lf10_58 rfl dX10_readsWays_26 h0.1 k) ?_
    refine Xi.br (tgt := 120) (pc' := 32) (0 ≤ (mI M 2230 3)) (fun _ _ kt kf => x_if_ge dX10_readsWays_29 rfl kt kf) (fun c => ?_) (fun c => ?_)
    · have h := h.1 c
      refine Xi.up (pc' := 121) (fun _ _ k => x_aload_n dX10_readsWays_120 rfl rfl k) ?_
      refine Xi.up (pc' := 123) (fun _ _ k => x_bipush dX10_readsWays_121 (show inR 41 from ⟨by decide, by decide⟩) (by decide) k) ?_
      obtain ⟨M10, hc12, hK11, h⟩ := h
      refine Xi.up (pc' := 126) (st' := []) (fun _ _ k => x_callVK (ci := 10) (as := [zi 41]) (st := []) hK k10_wants lm10_125 dX10_readsWays_123 rfl (by decide) (zs8 rfl) h0.1 ⟨_, _, rfl⟩ hc12 k) ?_
      refine Xi.up (pc' := 127) (fun _ _ k => x_aload_n dX10_readsWays_126 rfl rfl k) ?_
      refine Xi.up (pc' := 128) (fun _ _ k => x_dupR dX10_readsWays_127 k) ?_
      refine Xi.up (pc' := 131) (fun _ _ k => x_getIK hK11 lf10_128 rfl dX10_readsWays_128 h0.1 k) ?_
      refine Xi.up (pc' := 132) (fun _ _ k => x_iconst dX10_readsWays_131 (show inR 1 from ⟨by decide, by decide⟩) k) ?_
      obtain ⟨g13, h⟩ := h
      refine Xi.up (pc' := 133) (fun _ _ k => x_isub dX10_readsWays_132 g13 k) ?_
      refine Xi.up (pc' := 136) (fun _ _ k => x_putIK hK11 lf10_128 rfl rfl (Or.inl rfl) dX10_readsWays_133 h0.1 k) ?_
      have hK14 := KW.sI hK11 2230 4 ((mI M10 2230 4) - 1)
      refine Xi.up (pc' := 137) (fun _ _ k => x_aload_n dX10_readsWays_136 rfl rfl k) ?_
      refine Xi.up (pc' := 139) (fun _ _ k => x_bipush dX10_readsWays_137 (show inR 11 from ⟨by decide, by decide⟩) (by decide) k) ?_
      refine Xi.up (pc' := 140) (fun _ _ k => x_iload_n dX10_readsWays_139 rfl rfl k) ?_
      refine Xi.up (pc' := 141) (fun _ _ k => x_iload_n dX10_readsWays_140 rfl rfl k) ?_
      refine Xi.up (pc' := 142) (fun _ _ k => x_iconst dX10_readsWays_141 (show inR 0 from ⟨by decide, by decide⟩) k) ?_
      obtain ⟨x16, M15, hc18, hK17, h⟩ := h
      refine Xi.up (pc' := 145) (st' := [zi x16]) (fun _ _ k => x_callVK (ci := 10) (as := [zi 11, zi l1, zi l3, zi 0]) (st := []) hK14 k10_writes lm10_87 dX10_readsWays_142 rfl (by decide) (zs8 rfl) h0.1 ⟨_, _, rfl⟩ hc18 k) ?_
      exact Xi.ret ⟨dX10_readsWays_145, Or.inl rfl⟩ h
    · have h := h.2 c
      refine Xi.up (pc' := 33) (fun _ _ k => x_aload_n dX10_readsWays_32 rfl rfl k) ?_
      obtain ⟨x20, M19, hc22, hK21, h⟩ := h
      refine Xi.up (pc' := 36) (st' := [zi x20]) (fun _ _ k => x_callVK (ci := 10) (as := []) (st := []) hK k10_readsProgram lm10_134 dX10_readsWays_33 rfl (by decide) (zs8 rfl) h0.1 ⟨_, _, rfl⟩ hc22 k) ?_
      refine Xi.up (pc' := 38) (L' := [some (zr 2230), some (zi l1), some (zi l2), some (zi l3), some (zi l4), some (zi x20), none]) (fun _ _ k => x_istore dX10_readsWays_36 (by decide) rfl k) ?_
      refine Xi.up (pc' := 39) (fun _ _ k => x_aload_n dX10_readsWays_38 rfl rfl k) ?_
      refine Xi.up (pc' := 41) (fun _ _ k => x_bipush dX10_readsWays_39 (show inR 12 from ⟨by decide, by decide⟩) (by decide) k) ?_
      refine Xi.up (pc' := 43) (fun _ _ k => x_iload dX10_readsWays_41 rfl k) ?_
      refine Xi.up (pc' := 44) (fun _ _ k => x_iconst dX10_readsWays_43 (show inR 0 from ⟨by decide, by decide⟩) k) ?_
      refine Xi.up (pc' := 45) (fun _ _ k => x_iconst dX10_readsWays_44 (show inR 0 from ⟨by decide, by decide⟩) k) ?_
      obtain ⟨x24, M23, hc26, hK25, h⟩ := h
      refine Xi.up (pc' := 48) (st' := [zi x24]) (fun _ _ k => x_callVK (ci := 10) (as := [zi 12, zi x20, zi 0, zi 0]) (st := []) hK21 k10_writes lm10_87 dX10_readsWays_45 rfl (by decide) (zs8 rfl) h0.1 ⟨_, _, rfl⟩ hc26 k) ?_
      refine Xi.up (pc' := 50) (L' := [some (zr 2230), some (zi l1), some (zi l2), some (zi l3), some (zi l4), some (zi x20), some (zi x24)]) (fun _ _ k => x_istore dX10_readsWays_48 (by decide) rfl k) ?_
      refine Xi.up (pc' := 51) (fun _ _ k => x_iload_n dX10_readsWays_50 rfl rfl k) ?_
      refine Xi.br (tgt := 59) (pc' := 54) (l3 ≠ 0) (fun _ _ kt kf => x_if_ne dX10_readsWays_51 rfl kt kf) (fun c => ?_) (fun c => ?_)
      · have h := h.1 c
        refine Xi.up (pc' := 60) (fun _ _ k => x_iload_n dX10_readsWays_59 rfl rfl k) ?_
        refine Xi.up (pc' := 61) (L' := [some (zr 2230), some (zi l1), some (zi l2), some (zi l3), some (zi l4), some (zi x20), some (zi x24)]) (fun _ _ k => x_istore_n dX10_readsWays_60 rfl (by decide) rfl k) ?_
        refine Xi.up (pc' := 62) (fun _ _ k => x_iload_n dX10_readsWays_61 rfl rfl k) ?_
        refine Xi.br (tgt := 80) (pc' := 65) (l3 ≤ 0) (fun _ _ kt kf => x_if_le dX10_readsWays_62 rfl kt kf) (fun c => ?_) (fun c => ?_)
        · have h := h.1 c
          refine Xi.up (pc' := 82) (fun _ _ k => x_iload dX10_readsWays_80 rfl k) ?_
          refine Xi.up (pc' := 83) (L' := [some (zr 2230), some (zi l1), some (zi x24), some (zi l3), some (zi l4), some (zi x20), some (zi x24)]) (fun _ _ k => x_istore_n dX10_readsWays_82 rfl (by decide) rfl k) ?_
          obtain ⟨g27, h⟩ := h
          refine Xi.up (pc' := 86) (L' := [some (zr 2230), some (zi l1), some (zi x24), some (zi (l3 + 1)), some (zi l4), some (zi x20), some (zi x24)]) (fun _ _ k => x_iinc dX10_readsWays_83 rfl g27 (by decide) rfl k) ?_
          refine Xi.up (pc' := 87) (fun _ _ k => x_iload_n dX10_readsWays_86 rfl rfl k) ?_
          refine Xi.up (pc' := 89) (fun _ _ k => x_bipush dX10_readsWays_87 (show inR 6 from ⟨by decide, by decide⟩) (by decide) k) ?_
          refine Xi.br (tgt := 109) (pc' := 92) ((l3 + 1) ≠ 6) (fun _ _ kt kf => x_icmp_ne dX10_readsWays_89 rfl kt kf) (fun c => ?_) (fun c => ?_)
          · have h := h.1 c
            refine Xi.up (pc' := 110) (fun _ _ k => x_aload_n dX10_readsWays_109 rfl rfl k) ?_
            refine Xi.up (pc' := 112) (fun _ _ k => x_bipush dX10_readsWays_110 (show inR 124 from ⟨by decide, by decide⟩) (by decide) k) ?_
            obtain ⟨x29, M28, hc31, hK30, h⟩ := h
            refine Xi.up (pc' := 115) (st' := [zi x29]) (fun _ _ k => x_callVK (ci := 10) (as := [zi 124]) (st := []) hK25 k10_takes lm10_65 dX10_readsWays_112 rfl (by decide) (zs8 rfl) h0.1 ⟨_, _, rfl⟩ hc31 k) ?_
            refine Xi.up (pc' := 117) (L' := [some (zr 2230), some (zi l1), some (zi x24), some (zi (l3 + 1)), some (zi x29), some (zi x20), some (zi x24)]) (fun _ _ k => x_istore dX10_readsWays_115 (by decide) rfl k) ?_
            refine Xi.up (pc' := 20) (fun _ _ k => x_goto dX10_readsWays_117 rfl k) ?_
            exact Xi.up (fun _ _ k => x_less (L' := [some (zr 2230), some (zi l1), some (zi x24), some (zi (l3 + 1)), some (zi x29), none, none]) (⟨rfl, ⟨rfl, ⟨rfl, ⟨rfl, ⟨rfl, trivial⟩⟩⟩⟩⟩) k) h
          · have h := h.2 c
            refine Xi.up (pc' := 93) (fun _ _ k => x_aload_n dX10_readsWays_92 rfl rfl k) ?_
            obtain ⟨x33, M32, hc35, hK34, h⟩ := h
            refine Xi.up (pc' := 96) (st' := [zi x33]) (fun _ _ k => x_callVK (ci := 10) (as := []) (st := []) hK25 k10_peek lm10_61 dX10_readsWays_93 rfl (by decide) (zs8 rfl) h0.1 ⟨_, _, rfl⟩ hc35 k) ?_
            refine Xi.up (pc' := 98) (fun _ _ k => x_bipush dX10_readsWays_96 (show inR 124 from ⟨by decide, by decide⟩) (by decide) k) ?_
            refine Xi.br (tgt := 109) (pc' := 101) (x33 ≠ 124) (fun _ _ kt kf => x_icmp_ne dX10_readsWays_98 rfl kt kf) (fun c => ?_) (fun c => ?_)
            · have h := h.1 c
              refine Xi.up (pc' := 110) (fun _ _ k => x_aload_n dX10_readsWays_109 rfl rfl k) ?_
              refine Xi.up (pc' := 112) (fun _ _ k => x_bipush dX10_readsWays_110 (show inR 124 from ⟨by decide, by decide⟩) (by decide) k) ?_
              obtain ⟨x37, M36, hc39, hK38, h⟩ := h
              refine Xi.up (pc' := 115) (st' := [zi x37]) (fun _ _ k => x_callVK (ci := 10) (as := [zi 124]) (st := []) hK34 k10_takes lm10_65 dX10_readsWays_112 rfl (by decide) (zs8 rfl) h0.1 ⟨_, _, rfl⟩ hc39 k) ?_
              refine Xi.up (pc' := 117) (L' := [some (zr 2230), some (zi l1), some (zi x24), some (zi (l3 + 1)), some (zi x37), some (zi x20), some (zi x24)]) (fun _ _ k => x_istore dX10_readsWays_115 (by decide) rfl k) ?_
              refine Xi.up (pc' := 20) (fun _ _ k => x_goto dX10_readsWays_117 rfl k) ?_
              exact Xi.up (fun _ _ k => x_less (L' := [some (zr 2230), some (zi l1), some (zi x24), some (zi (l3 + 1)), some (zi x37), none, none]) (⟨rfl, ⟨rfl, ⟨rfl, ⟨rfl, ⟨rfl, trivial⟩⟩⟩⟩⟩) k) h
            · have h := h.2 c
              refine Xi.up (pc' := 102) (fun _ _ k => x_aload_n dX10_readsWays_101 rfl rfl k) ?_
              refine Xi.up (pc' := 103) (fun _ _ k => x_aload_n dX10_readsWays_102 rfl rfl k) ?_
              refine Xi.up (pc' := 106) (fun _ _ k => x_getIK hK34 lf10_51 rfl dX10_readsWays_103 h0.1 k) ?_
              obtain ⟨M40, hc42, hK41, h⟩ := h
              refine Xi.up (pc' := 109) (st' := []) (fun _ _ k => x_callVK (ci := 10) (as := [zi (mI M32 2230 2)]) (st := []) hK34 k10_wrong lm10_69 dX10_readsWays_106 rfl (by decide) (zs8 rfl) h0.1 ⟨_, _, rfl⟩ hc42 k) ?_
              refine Xi.up (pc' := 110) (fun _ _ k => x_aload_n dX10_readsWays_109 rfl rfl k) ?_
              refine Xi.up (pc' := 112) (fun _ _ k => x_bipush dX10_readsWays_110 (show inR 124 from ⟨by decide, by decide⟩) (by decide) k) ?_
              obtain ⟨x44, M43, hc46, hK45, h⟩ := h
              refine Xi.up (pc' := 115) (st' := [zi x44]) (fun _ _ k => x_callVK (ci := 10) (as := [zi 124]) (st := []) hK41 k10_takes lm10_65 dX10_readsWays_112 rfl (by decide) (zs8 rfl) h0.1 ⟨_, _, rfl⟩ hc46 k) ?_
              refine Xi.up (pc' := 117) (L' := [some (zr 2230), some (zi l1), some (zi x24), some (zi (l3 + 1)), some (zi x44), some (zi x20), some (zi x24)]) (fun _ _ k => x_istore dX10_readsWays_115 (by decide) rfl k) ?_
              refine Xi.up (pc' := 20) (fun _ _ k => x_goto dX10_readsWays_117 rfl k) ?_
              exact Xi.up (fun _ _ k => x_less (L' := [some (zr 2230), some (zi l1), some (zi x24), some (zi (l3 + 1)), some (zi x44), none, none]) (⟨rfl, ⟨rfl, ⟨rfl, ⟨rfl, ⟨rfl, trivial⟩⟩⟩⟩⟩) k) h
        · have h := h.2 c
          refine Xi.up (pc' := 66) (fun _ _ k => x_aload_n dX10_readsWays_65 rfl rfl k) ?_
          refine Xi.up (pc' := 69) (fun _ _ k => x_getIK hK25 lf10_58 rfl dX10_readsWays_66 h0.1 k) ?_
          refine Xi.br (tgt := 80) (pc' := 72) (0 ≤ (mI M23 2230 3)) (fun _ _ kt kf => x_if_ge dX10_readsWays_69 rfl kt kf) (fun c => ?_) (fun c => ?_)
          · have h := h.1 c
            refine Xi.up (pc' := 82) (fun _ _ k => x_iload dX10_readsWays_80 rfl k) ?_
            refine Xi.up (pc' := 83) (L' := [some (zr 2230), some (zi l1), some (zi x24), some (zi l3), some (zi l4), some (zi x20), some (zi x24)]) (fun _ _ k => x_istore_n dX10_readsWays_82 rfl (by decide) rfl k) ?_
            obtain ⟨g47, h⟩ := h
            refine Xi.up (pc' := 86) (L' := [some (zr 2230), some (zi l1), some (zi x24), some (zi (l3 + 1)), some (zi l4), some (zi x20), some (zi x24)]) (fun _ _ k => x_iinc dX10_readsWays_83 rfl g47 (by decide) rfl k) ?_
            refine Xi.up (pc' := 87) (fun _ _ k => x_iload_n dX10_readsWays_86 rfl rfl k) ?_
            refine Xi.up (pc' := 89) (fun _ _ k => x_bipush dX10_readsWays_87 (show inR 6 from ⟨by decide, by decide⟩) (by decide) k) ?_
            refine Xi.br (tgt := 109) (pc' := 92) ((l3 + 1) ≠ 6) (fun _ _ kt kf => x_icmp_ne dX10_readsWays_89 rfl kt kf) (fun c => ?_) (fun c => ?_)
            · have h := h.1 c
              refine Xi.up (pc' := 110) (fun _ _ k => x_aload_n dX10_readsWays_109 rfl rfl k) ?_
              refine Xi.up (pc' := 112) (fun _ _ k => x_bipush dX10_readsWays_110 (show inR 124 from ⟨by decide, by decide⟩) (by decide) k) ?_
              obtain ⟨x49, M48, hc51, hK50, h⟩ := h
              refine Xi.up (pc' := 115) (st' := [zi x49]) (fun _ _ k => x_callVK (ci := 10) (as := [zi 124]) (st := []) hK25 k10_takes lm10_65 dX10_readsWays_112 rfl (by decide) (zs8 rfl) h0.1 ⟨_, _, rfl⟩ hc51 k) ?_
              refine Xi.up (pc' := 117) (L' := [some (zr 2230), some (zi l1), some (zi x24), some (zi (l3 + 1)), some (zi x49), some (zi x20), some (zi x24)]) (fun _ _ k => x_istore dX10_readsWays_115 (by decide) rfl k) ?_
              refine Xi.up (pc' := 20) (fun _ _ k => x_goto dX10_readsWays_117 rfl k) ?_
              exact Xi.up (fun _ _ k => x_less (L' := [some (zr 2230), some (zi l1), some (zi x24), some (zi (l3 + 1)), some (zi x49), none, none]) (⟨rfl, ⟨rfl, ⟨rfl, ⟨rfl, ⟨rfl, trivial⟩⟩⟩⟩⟩) k) h
            · have h := h.2 c
              refine Xi.up (pc' := 93) (fun _ _ k => x_aload_n dX10_readsWays_92 rfl rfl k) ?_
              obtain ⟨x53, M52, hc55, hK54, h⟩ := h
              refine Xi.up (pc' := 96) (st' := [zi x53]) (fun _ _ k => x_callVK (ci := 10) (as := []) (st := []) hK25 k10_peek lm10_61 dX10_readsWays_93 rfl (by decide) (zs8 rfl) h0.1 ⟨_, _, rfl⟩ hc55 k) ?_
              refine Xi.up (pc' := 98) (fun _ _ k => x_bipush dX10_readsWays_96 (show inR 124 from ⟨by decide, by decide⟩) (by decide) k) ?_
              refine Xi.br (tgt := 109) (pc' := 101) (x53 ≠ 124) (fun _ _ kt kf => x_icmp_ne dX10_readsWays_98 rfl kt kf) (fun c => ?_) (fun c => ?_)
              · have h := h.1 c
                refine Xi.up (pc' := 110) (fun _ _ k => x_aload_n dX10_readsWays_109 rfl rfl k) ?_
                refine Xi.up (pc' := 112) (fun _ _ k => x_bipush dX10_readsWays_110 (show inR 124 from ⟨by decide, by decide⟩) (by decide) k) ?_
                obtain ⟨x57, M56, hc59, hK58, h⟩ := h
                refine Xi.up (pc' := 115) (st' := [zi x57]) (fun _ _ k => x_callVK (ci := 10) (as := [zi 124]) (st := []) hK54 k10_takes lm10_65 dX10_readsWays_112 rfl (by decide) (zs8 rfl) h0.1 ⟨_, _, rfl⟩ hc59 k) ?_
                refine Xi.up (pc' := 117) (L' := [some (zr 2230), some (zi l1), some (zi x24), some (zi (l3 + 1)), some (zi x57), some (zi x20), some (zi x24)]) (fun _ _ k => x_istore dX10_readsWays_115 (by decide) rfl k) ?_
                refine Xi.up (pc' := 20) (fun _ _ k => x_goto dX10_readsWays_117 rfl k) ?_
                exact Xi.up (fun _ _ k => x_less (L' := [some (zr 2230), some (zi l1), some (zi x24), some (zi (l3 + 1)), some (zi x57), none, none]) (⟨rfl, ⟨rfl, ⟨rfl, ⟨rfl, ⟨rfl, trivial⟩⟩⟩⟩⟩) k) h
              · have h := h.2 c
                refine Xi.up (pc' := 102) (fun _ _ k => x_aload_n dX10_readsWays_101 rfl rfl k) ?_
                refine Xi.up (pc' := 103) (fun _ _ k => x_aload_n dX10_readsWays_102 rfl rfl k) ?_
                refine Xi.up (pc' := 106) (fun _ _ k => x_getIK hK54 lf10_51 rfl dX10_readsWays_103 h0.1 k) ?_
                obtain ⟨M60, hc62, hK61, h⟩ := h
                refine Xi.up (pc' := 109) (st' := []) (fun _ _ k => x_callVK (ci := 10) (as := [zi (mI M52 2230 2)]) (st := []) hK54 k10_wrong lm10_69 dX10_readsWays_106 rfl (by decide) (zs8 rfl) h0.1 ⟨_, _, rfl⟩ hc62 k) ?_
                refine Xi.up (pc' := 110) (fun _ _ k => x_aload_n dX10_readsWays_109 rfl rfl k) ?_
                refine Xi.up (pc' := 112) (fun _ _ k => x_bipush dX10_readsWays_110 (show inR 124 from ⟨by decide, by decide⟩) (by decide) k) ?_
                obtain ⟨x64, M63, hc66, hK65, h⟩ := h
                refine Xi.up (pc' := 115) (st' := [zi x64]) (fun _ _ k => x_callVK (ci := 10) (as := [zi 124]) (st := []) hK61 k10_takes lm10_65 dX10_readsWays_112 rfl (by decide) (zs8 rfl) h0.1 ⟨_, _, rfl⟩ hc66 k) ?_
                refine Xi.up (pc' := 117) (L' := [some (zr 2230), some (zi l1), some (zi x24), some (zi (l3 + 1)), some (zi x64), some (zi x20), some (zi x24)]) (fun _ _ k => x_istore dX10_readsWays_115 (by decide) rfl k) ?_
                refine Xi.up (pc' := 20) (fun _ _ k => x_goto dX10_readsWays_117 rfl k) ?_
                exact Xi.up (fun _ _ k => x_less (L' := [some (zr 2230), some (zi l1), some (zi x24), some (zi (l3 + 1)), some (zi x64), none, none]) (⟨rfl, ⟨rfl, ⟨rfl, ⟨rfl, ⟨rfl, trivial⟩⟩⟩⟩⟩) k) h
          · have h := h.2 c
            refine Xi.up (pc' := 73) (fun _ _ k => x_aload_n dX10_readsWays_72 rfl rfl k) ?_
            refine Xi.up (pc' := 76) (fun _ _ k => x_getRK hK25 lf10_26 rfl dX10_readsWays_73 h0.1 h0.2.2.2.2.2.2.1 k) ?_
            refine Xi.up (pc' := 77) (fun _ _ k => x_iload_n dX10_readsWays_76 rfl rfl k) ?_
            refine Xi.up (pc' := 79) (fun _ _ k => x_iload dX10_readsWays_77 rfl k) ?_
            obtain ⟨g67, h⟩ := h
            obtain ⟨g68, h⟩ := h
            refine Xi.up (pc' := 80) (fun _ _ k => x_iastoreK hK25 dX10_readsWays_79 h0.2.2.2.2.2.2.2.2.2.2.2.2.2.2.2.2.1 g67 g68 k) ?_
            have hK69 := KW.sI hK25 2236 l2.toNat x24
            refine Xi.up (pc' := 82) (fun _ _ k => x_iload dX10_readsWays_80 rfl k) ?_
            refine Xi.up (pc' := 83) (L' := [some (zr 2230), some (zi l1), some (zi x24), some (zi l3), some (zi l4), some (zi x20), some (zi x24)]) (fun _ _ k => x_istore_n dX10_readsWays_82 rfl (by decide) rfl k) ?_
            obtain ⟨g70, h⟩ := h
            refine Xi.up (pc' := 86) (L' := [some (zr 2230), some (zi l1), some (zi x24), some (zi (l3 + 1)), some (zi l4), some (zi x20), some (zi x24)]) (fun _ _ k => x_iinc dX10_readsWays_83 rfl g70 (by decide) rfl k) ?_
            refine Xi.up (pc' := 87) (fun _ _ k => x_iload_n dX10_readsWays_86 rfl rfl k) ?_
            refine Xi.up (pc' := 89) (fun _ _ k => x_bipush dX10_readsWays_87 (show inR 6 from ⟨by decide, by decide⟩) (by decide) k) ?_
            refine Xi.br (tgt := 109) (pc' := 92) ((l3 + 1) ≠ 6) (fun _ _ kt kf => x_icmp_ne dX10_readsWays_89 rfl kt kf) (fun c => ?_) (fun c => ?_)
            · have h := h.1 c
              refine Xi.up (pc' := 110) (fun _ _ k => x_aload_n dX10_readsWays_109 rfl rfl k) ?_
              refine Xi.up (pc' := 112) (fun _ _ k => x_bipush dX10_readsWays_110 (show inR 124 from ⟨by decide, by decide⟩) (by decide) k) ?_
              obtain ⟨x72, M71, hc74, hK73, h⟩ := h
              refine Xi.up (pc' := 115) (st' := [zi x72]) (fun _ _ k => x_callVK (ci := 10) (as := [zi 124]) (st := []) hK69 k10_takes lm10_65 dX10_readsWays_112 rfl (by decide) (zs8 rfl) h0.1 ⟨_, _, rfl⟩ hc74 k) ?_
              refine Xi.up (pc' := 117) (L' := [some (zr 2230), some (zi l1), some (zi x24), some (zi (l3 + 1)), some (zi x72), some (zi x20), some (zi x24)]) (fun _ _ k => x_istore dX10_readsWays_115 (by decide) rfl k) ?_
              refine Xi.up (pc' := 20) (fun _ _ k => x_goto dX10_readsWays_117 rfl k) ?_
              exact Xi.up (fun _ _ k => x_less (L' := [some (zr 2230), some (zi l1), some (zi x24), some (zi (l3 + 1)), some (zi x72), none, none]) (⟨rfl, ⟨rfl, ⟨rfl, ⟨rfl, ⟨rfl, trivial⟩⟩⟩⟩⟩) k) h
            · have h := h.2 c
              refine Xi.up (pc' := 93) (fun _ _ k => x_aload_n dX10_readsWays_92 rfl rfl k) ?_
              obtain ⟨x76, M75, hc78, hK77, h⟩ := h
              refine Xi.up (pc' := 96) (st' := [zi x76]) (fun _ _ k => x_callVK (ci := 10) (as := []) (st := []) hK69 k10_peek lm10_61 dX10_readsWays_93 rfl (by decide) (zs8 rfl) h0.1 ⟨_, _, rfl⟩ hc78 k) ?_
              refine Xi.up (pc' := 98) (fun _ _ k => x_bipush dX10_readsWays_96 (show inR 124 from ⟨by decide, by decide⟩) (by decide) k) ?_
              refine Xi.br (tgt := 109) (pc' := 101) (x76 ≠ 124) (fun _ _ kt kf => x_icmp_ne dX10_readsWays_98 rfl kt kf) (fun c => ?_) (fun c => ?_)
              · have h := h.1 c
                refine Xi.up (pc' := 110) (fun _ _ k => x_aload_n dX10_readsWays_109 rfl rfl k) ?_
                refine Xi.up (pc' := 112) (fun _ _ k => x_bipush dX10_readsWays_110 (show inR 124 from ⟨by decide, by decide⟩) (by decide) k) ?_
                obtain ⟨x80, M79, hc82, hK81, h⟩ := h
                refine Xi.up (pc' := 115) (st' := [zi x80]) (fun _ _ k => x_callVK (ci := 10) (as := [zi 124]) (st := []) hK77 k10_takes lm10_65 dX10_readsWays_112 rfl (by decide) (zs8 rfl) h0.1 ⟨_, _, rfl⟩ hc82 k) ?_
                refine Xi.up (pc' := 117) (L' := [some (zr 2230), some (zi l1), some (zi x24), some (zi (l3 + 1)), some (zi x80), some (zi x20), some (zi x24)]) (fun _ _ k => x_istore dX10_readsWays_115 (by decide) rfl k) ?_
                refine Xi.up (pc' := 20) (fun _ _ k => x_goto dX10_readsWays_117 rfl k) ?_
                exact Xi.up (fun _ _ k => x_less (L' := [some (zr 2230), some (zi l1), some (zi x24), some (zi (l3 + 1)), some (zi x80), none, none]) (⟨rfl, ⟨rfl, ⟨rfl, ⟨rfl, ⟨rfl, trivial⟩⟩⟩⟩⟩) k) h
              · have h := h.2 c
                refine Xi.up (pc' := 102) (fun _ _ k => x_aload_n dX10_readsWays_101 rfl rfl k) ?_
                refine Xi.up (pc' := 103) (fun _ _ k => x_aload_n dX10_readsWays_102 rfl rfl k) ?_
                refine Xi.up (pc' := 106) (fun _ _ k => x_getIK hK77 lf10_51 rfl dX10_readsWays_103 h0.1 k) ?_
                obtain ⟨M83, hc85, hK84, h⟩ := h
                refine Xi.up (pc' := 109) (st' := []) (fun _ _ k => x_callVK (ci := 10) (as := [zi (mI M75 2230 2)]) (st := []) hK77 k10_wrong lm10_69 dX10_readsWays_106 rfl (by decide) (zs8 rfl) h0.1 ⟨_, _, rfl⟩ hc85 k) ?_
                refine Xi.up (pc' := 110) (fun _ _ k => x_aload_n dX10_readsWays_109 rfl rfl k) ?_
                refine Xi.up (pc' := 112) (fun _ _ k => x_bipush dX10_readsWays_110 (show inR 124 from ⟨by decide, by decide⟩) (by decide) k) ?_
                obtain ⟨x87, M86, hc89, hK88, h⟩ := h
                refine Xi.up (pc' := 115) (st' := [zi x87]) (fun _ _ k => x_callVK (ci := 10) (as := [zi 124]) (st := []) hK84 k10_takes lm10_65 dX10_readsWays_112 rfl (by decide) (zs8 rfl) h0.1 ⟨_, _, rfl⟩ hc89 k) ?_
                refine Xi.up (pc' := 117) (L' := [some (zr 2230), some (zi l1), some (zi x24), some (zi (l3 + 1)), some (zi x87), some (zi x20), some (zi x24)]) (fun _ _ k => x_istore dX10_readsWays_115 (by decide) rfl k) ?_
                refine Xi.up (pc' := 20) (fun _ _ k => x_goto dX10_readsWays_117 rfl k) ?_
                exact Xi.up (fun _ _ k => x_less (L' := [some (zr 2230), some (zi l1), some (zi x24), some (zi (l3 + 1)), some (zi x87), none, none]) (⟨rfl, ⟨rfl, ⟨rfl, ⟨rfl, ⟨rfl, trivial⟩⟩⟩⟩⟩) k) h
      · have h := h.2 c
        refine Xi.up (pc' := 56) (fun _ _ k => x_iload dX10_readsWays_54 rfl k) ?_
        refine Xi.up (pc' := 60) (fun _ _ k => x_goto dX10_readsWays_56 rfl k) ?_
        refine Xi.up (pc' := 61) (L' := [some (zr 2230), some (zi x24), some (zi l2), some (zi l3), some (zi l4), some (zi x20), some (zi x24)]) (fun _ _ k => x_istore_n dX10_readsWays_60 rfl (by decide) rfl k) ?_
        refine Xi.up (pc' := 62) (fun _ _ k => x_iload_n dX10_readsWays_61 rfl rfl k) ?_
        refine Xi.br (tgt := 80) (pc' := 65) (l3 ≤ 0) (fun _ _ kt kf => x_if_le dX10_readsWays_62 rfl kt kf) (fun c => ?_) (fun c => ?_)
        · have h := h.1 c
          refine Xi.up (pc' := 82) (fun _ _ k => x_iload dX10_readsWays_80 rfl k) ?_
          refine Xi.up (pc' := 83) (L' := [some (zr 2230), some (zi x24), some (zi x24), some (zi l3), some (zi l4), some (zi x20), some (zi x24)]) (fun _ _ k => x_istore_n dX10_readsWays_82 rfl (by decide) rfl k) ?_
          obtain ⟨g90, h⟩ := h
          refine Xi.up (pc' := 86) (L' := [some (zr 2230), some (zi x24), some (zi x24), some (zi (l3 + 1)), some (zi l4), some (zi x20), some (zi x24)]) (fun _ _ k => x_iinc dX10_readsWays_83 rfl g90 (by decide) rfl k) ?_
          refine Xi.up (pc' := 87) (fun _ _ k => x_iload_n dX10_readsWays_86 rfl rfl k) ?_
          refine Xi.up (pc' := 89) (fun _ _ k => x_bipush dX10_readsWays_87 (show inR 6 from ⟨by decide, by decide⟩) (by decide) k) ?_
          refine Xi.br (tgt := 109) (pc' := 92) ((l3 + 1) ≠ 6) (fun _ _ kt kf => x_icmp_ne dX10_readsWays_89 rfl kt kf) (fun c => ?_) (fun c => ?_)
          · have h := h.1 c
            refine Xi.up (pc' := 110) (fun _ _ k => x_aload_n dX10_readsWays_109 rfl rfl k) ?_
            refine Xi.up (pc' := 112) (fun _ _ k => x_bipush dX10_readsWays_110 (show inR 124 from ⟨by decide, by decide⟩) (by decide) k) ?_
            obtain ⟨x92, M91, hc94, hK93, h⟩ := h
            refine Xi.up (pc' := 115) (st' := [zi x92]) (fun _ _ k => x_callVK (ci := 10) (as := [zi 124]) (st := []) hK25 k10_takes lm10_65 dX10_readsWays_112 rfl (by decide) (zs8 rfl) h0.1 ⟨_, _, rfl⟩ hc94 k) ?_
            refine Xi.up (pc' := 117) (L' := [some (zr 2230), some (zi x24), some (zi x24), some (zi (l3 + 1)), some (zi x92), some (zi x20), some (zi x24)]) (fun _ _ k => x_istore dX10_readsWays_115 (by decide) rfl k) ?_
            refine Xi.up (pc' := 20) (fun _ _ k => x_goto dX10_readsWays_117 rfl k) ?_
            exact Xi.up (fun _ _ k => x_less (L' := [some (zr 2230), some (zi x24), some (zi x24), some (zi (l3 + 1)), some (zi x92), none, none]) (⟨rfl, ⟨rfl, ⟨rfl, ⟨rfl, ⟨rfl, trivial⟩⟩⟩⟩⟩) k) h
          · have h := h.2 c
            refine Xi.up (pc' := 93) (fun _ _ k => x_aload_n dX10_readsWays_92 rfl rfl k) ?_
            obtain ⟨x96, M95, hc98, hK97, h⟩ := h
            refine Xi.up (pc' := 96) (st' := [zi x96]) (fun _ _ k => x_callVK (ci := 10) (as := []) (st := []) hK25 k10_peek lm10_61 dX10_readsWays_93 rfl (by decide) (zs8 rfl) h0.1 ⟨_, _, rfl⟩ hc98 k) ?_
            refine Xi.up (pc' := 98) (fun _ _ k => x_bipush dX10_readsWays_96 (show inR 124 from ⟨by decide, by decide⟩) (by decide) k) ?_
            refine Xi.br (tgt := 109) (pc' := 101) (x96 ≠ 124) (fun _ _ kt kf => x_icmp_ne dX10_readsWays_98 rfl kt kf) (fun c => ?_) (fun c => ?_)
            · have h := h.1 c
              refine Xi.up (pc' := 110) (fun _ _ k => x_aload_n dX10_readsWays_109 rfl rfl k) ?_
              refine Xi.up (pc' := 112) (fun _ _ k => x_bipush dX10_readsWays_110 (show inR 124 from ⟨by decide, by decide⟩) (by decide) k) ?_
              obtain ⟨x100, M99, hc102, hK101, h⟩ := h
              refine Xi.up (pc' := 115) (st' := [zi x100]) (fun _ _ k => x_callVK (ci := 10) (as := [zi 124]) (st := []) hK97 k10_takes lm10_65 dX10_readsWays_112 rfl (by decide) (zs8 rfl) h0.1 ⟨_, _, rfl⟩ hc102 k) ?_
              refine Xi.up (pc' := 117) (L' := [some (zr 2230), some (zi x24), some (zi x24), some (zi (l3 + 1)), some (zi x100), some (zi x20), some (zi x24)]) (fun _ _ k => x_istore dX10_readsWays_115 (by decide) rfl k) ?_
              refine Xi.up (pc' := 20) (fun _ _ k => x_goto dX10_readsWays_117 rfl k) ?_
              exact Xi.up (fun _ _ k => x_less (L' := [some (zr 2230), some (zi x24), some (zi x24), some (zi (l3 + 1)), some (zi x100), none, none]) (⟨rfl, ⟨rfl, ⟨rfl, ⟨rfl, ⟨rfl, trivial⟩⟩⟩⟩⟩) k) h
            · have h := h.2 c
              refine Xi.up (pc' := 102) (fun _ _ k => x_aload_n dX10_readsWays_101 rfl rfl k) ?_
              refine Xi.up (pc' := 103) (fun _ _ k => x_aload_n dX10_readsWays_102 rfl rfl k) ?_
              refine Xi.up (pc' := 106) (fun _ _ k => x_getIK hK97 lf10_51 rfl dX10_readsWays_103 h0.1 k) ?_
              obtain ⟨M103, hc105, hK104, h⟩ := h
              refine Xi.up (pc' := 109) (st' := []) (fun _ _ k => x_callVK (ci := 10) (as := [zi (mI M95 2230 2)]) (st := []) hK97 k10_wrong lm10_69 dX10_readsWays_106 rfl (by decide) (zs8 rfl) h0.1 ⟨_, _, rfl⟩ hc105 k) ?_
              refine Xi.up (pc' := 110) (fun _ _ k => x_aload_n dX10_readsWays_109 rfl rfl k) ?_
              refine Xi.up (pc' := 112) (fun _ _ k => x_bipush dX10_readsWays_110 (show inR 124 from ⟨by decide, by decide⟩) (by decide) k) ?_
              obtain ⟨x107, M106, hc109, hK108, h⟩ := h
              refine Xi.up (pc' := 115) (st' := [zi x107]) (fun _ _ k => x_callVK (ci := 10) (as := [zi 124]) (st := []) hK104 k10_takes lm10_65 dX10_readsWays_112 rfl (by decide) (zs8 rfl) h0.1 ⟨_, _, rfl⟩ hc109 k) ?_
              refine Xi.up (pc' := 117) (L' := [some (zr 2230), some (zi x24), some (zi x24), some (zi (l3 + 1)), some (zi x107), some (zi x20), some (zi x24)]) (fun _ _ k => x_istore dX10_readsWays_115 (by decide) rfl k) ?_
              refine Xi.up (pc' := 20) (fun _ _ k => x_goto dX10_readsWays_117 rfl k) ?_
              exact Xi.up (fun _ _ k => x_less (L' := [some (zr 2230), some (zi x24), some (zi x24), some (zi (l3 + 1)), some (zi x107), none, none]) (⟨rfl, ⟨rfl, ⟨rfl, ⟨rfl, ⟨rfl, trivial⟩⟩⟩⟩⟩) k) h
        · have h := h.2 c
          refine Xi.up (pc' := 66) (fun _ _ k => x_aload_n dX10_readsWays_65 rfl rfl k) ?_
          refine Xi.up (pc' := 69) (fun _ _ k => x_getIK hK25 lf10_58 rfl dX10_readsWays_66 h0.1 k) ?_
          refine Xi.br (tgt := 80) (pc' := 72) (0 ≤ (mI M23 2230 3)) (fun _ _ kt kf => x_if_ge dX10_readsWays_69 rfl kt kf) (fun c => ?_) (fun c => ?_)
          · have h := h.1 c
            refine Xi.up (pc' := 82) (fun _ _ k => x_iload dX10_readsWays_80 rfl k) ?_
            refine Xi.up (pc' := 83) (L' := [some (zr 2230), some (zi x24), some (zi x24), some (zi l3), some (zi l4), some (zi x20), some (zi x24)]) (fun _ _ k => x_istore_n dX10_readsWays_82 rfl (by decide) rfl k) ?_
            obtain ⟨g110, h⟩ := h
            refine Xi.up (pc' := 86) (L' := [some (zr 2230), some (zi x24), some (zi x24), some (zi (l3 + 1)), some (zi l4), some (zi x20), some (zi x24)]) (fun _ _ k => x_iinc dX10_readsWays_83 rfl g110 (by decide) rfl k) ?_
            refine Xi.up (pc' := 87) (fun _ _ k => x_iload_n dX10_readsWays_86 rfl rfl k) ?_
            refine Xi.up (pc' := 89) (fun _ _ k => x_bipush dX10_readsWays_87 (show inR 6 from ⟨by decide, by decide⟩) (by decide) k) ?_
            refine Xi.br (tgt := 109) (pc' := 92) ((l3 + 1) ≠ 6) (fun _ _ kt kf => x_icmp_ne dX10_readsWays_89 rfl kt kf) (fun c => ?_) (fun c => ?_)
            · have h := h.1 c
              refine Xi.up (pc' := 110) (fun _ _ k => x_aload_n dX10_readsWays_109 rfl rfl k) ?_
              refine Xi.up (pc' := 112) (fun _ _ k => x_bipush dX10_readsWays_110 (show inR 124 from ⟨by decide, by decide⟩) (by decide) k) ?_
              obtain ⟨x112, M111, hc114, hK113, h⟩ := h
              refine Xi.up (pc' := 115) (st' := [zi x112]) (fun _ _ k => x_callVK (ci := 10) (as := [zi 124]) (st := []) hK25 k10_takes lm10_65 dX10_readsWays_112 rfl (by decide) (zs8 rfl) h0.1 ⟨_, _, rfl⟩ hc114 k) ?_
              refine Xi.up (pc' := 117) (L' := [some (zr 2230), some (zi x24), some (zi x24), some (zi (l3 + 1)), some (zi x112), some (zi x20), some (zi x24)]) (fun _ _ k => x_istore dX10_readsWays_115 (by decide) rfl k) ?_
              refine Xi.up (pc' := 20) (fun _ _ k => x_goto dX10_readsWays_117 rfl k) ?_
              exact Xi.up (fun _ _ k => x_less (L' := [some (zr 2230), some (zi x24), some (zi x24), some (zi (l3 + 1)), some (zi x112), none, none]) (⟨rfl, ⟨rfl, ⟨rfl, ⟨rfl, ⟨rfl, trivial⟩⟩⟩⟩⟩) k) h
            · have h := h.2 c
              refine Xi.up (pc' := 93) (fun _ _ k => x_aload_n dX10_readsWays_92 rfl rfl k) ?_
              obtain ⟨x116, M115, hc118, hK117, h⟩ := h
              refine Xi.up (pc' := 96) (st' := [zi x116]) (fun _ _ k => x_callVK (ci := 10) (as := []) (st := []) hK25 k10_peek lm10_61 dX10_readsWays_93 rfl (by decide) (zs8 rfl) h0.1 ⟨_, _, rfl⟩ hc118 k) ?_
              refine Xi.up (pc' := 98) (fun _ _ k => x_bipush dX10_readsWays_96 (show inR 124 from ⟨by decide, by decide⟩) (by decide) k) ?_
              refine Xi.br (tgt := 109) (pc' := 101) (x116 ≠ 124) (fun _ _ kt kf => x_icmp_ne dX10_readsWays_98 rfl kt kf) (fun c => ?_) (fun c => ?_)
              · have h := h.1 c
                refine Xi.up (pc' := 110) (fun _ _ k => x_aload_n dX10_readsWays_109 rfl rfl k) ?_
                refine Xi.up (pc' := 112) (fun _ _ k => x_bipush dX10_readsWays_110 (show inR 124 from ⟨by decide, by decide⟩) (by decide) k) ?_
                obtain ⟨x120, M119, hc122, hK121, h⟩ := h
                refine Xi.up (pc' := 115) (st' := [zi x120]) (fun _ _ k => x_callVK (ci := 10) (as := [zi 124]) (st := []) hK117 k10_takes lm10_65 dX10_readsWays_112 rfl (by decide) (zs8 rfl) h0.1 ⟨_, _, rfl⟩ hc122 k) ?_
                refine Xi.up (pc' := 117) (L' := [some (zr 2230), some (zi x24), some (zi x24), some (zi (l3 + 1)), some (zi x120), some (zi x20), some (zi x24)]) (fun _ _ k => x_istore dX10_readsWays_115 (by decide) rfl k) ?_
                refine Xi.up (pc' := 20) (fun _ _ k => x_goto dX10_readsWays_117 rfl k) ?_
                exact Xi.up (fun _ _ k => x_less (L' := [some (zr 2230), some (zi x24), some (zi x24), some (zi (l3 + 1)), some (zi x120), none, none]) (⟨rfl, ⟨rfl, ⟨rfl, ⟨rfl, ⟨rfl, trivial⟩⟩⟩⟩⟩) k) h
              · have h := h.2 c
                refine Xi.up (pc' := 102) (fun _ _ k => x_aload_n dX10_readsWays_101 rfl rfl k) ?_
                refine Xi.up (pc' := 103) (fun _ _ k => x_aload_n dX10_readsWays_102 rfl rfl k) ?_
                refine Xi.up (pc' := 106) (fun _ _ k => x_getIK hK117 lf10_51 rfl dX10_readsWays_103 h0.1 k) ?_
                obtain ⟨M123, hc125, hK124, h⟩ := h
                refine Xi.up (pc' := 109) (st' := []) (fun _ _ k => x_callVK (ci := 10) (as := [zi (mI M115 2230 2)]) (st := []) hK117 k10_wrong lm10_69 dX10_readsWays_106 rfl (by decide) (zs8 rfl) h0.1 ⟨_, _, rfl⟩ hc125 k) ?_
                refine Xi.up (pc' := 110) (fun _ _ k => x_aload_n dX10_readsWays_109 rfl rfl k) ?_
                refine Xi.up (pc' := 112) (fun _ _ k => x_bipush dX10_readsWays_110 (show inR 124 from ⟨by decide, by decide⟩) (by decide) k) ?_
                obtain ⟨x127, M126, hc129, hK128, h⟩ := h
                refine Xi.up (pc' := 115) (st' := [zi x127]) (fun _ _ k => x_callVK (ci := 10) (as := [zi 124]) (st := []) hK124 k10_takes lm10_65 dX10_readsWays_112 rfl (by decide) (zs8 rfl) h0.1 ⟨_, _, rfl⟩ hc129 k) ?_
                refine Xi.up (pc' := 117) (L' := [some (zr 2230), some (zi x24), some (zi x24), some (zi (l3 + 1)), some (zi x127), some (zi x20), some (zi x24)]) (fun _ _ k => x_istore dX10_readsWays_115 (by decide) rfl k) ?_
                refine Xi.up (pc' := 20) (fun _ _ k => x_goto dX10_readsWays_117 rfl k) ?_
                exact Xi.up (fun _ _ k => x_less (L' := [some (zr 2230), some (zi x24), some (zi x24), some (zi (l3 + 1)), some (zi x127), none, none]) (⟨rfl, ⟨rfl, ⟨rfl, ⟨rfl, ⟨rfl, trivial⟩⟩⟩⟩⟩) k) h
          · have h := h.2 c
            refine Xi.up (pc' := 73) (fun _ _ k => x_aload_n dX10_readsWays_72 rfl rfl k) ?_
            refine Xi.up (pc' := 76) (fun _ _ k => x_getRK hK25 lf10_26 rfl dX10_readsWays_73 h0.1 h0.2.2.2.2.2.2.1 k) ?_
            refine Xi.up (pc' := 77) (fun _ _ k => x_iload_n dX10_readsWays_76 rfl rfl k) ?_
            refine Xi.up (pc' := 79) (fun _ _ k => x_iload dX10_readsWays_77 rfl k) ?_
            obtain ⟨g130, h⟩ := h
            obtain ⟨g131, h⟩ := h
            refine Xi.up (pc' := 80) (fun _ _ k => x_iastoreK hK25 dX10_readsWays_79 h0.2.2.2.2.2.2.2.2.2.2.2.2.2.2.2.2.1 g130 g131 k) ?_
            have hK132 := KW.sI hK25 2236 l2.toNat x24
            refine Xi.up (pc' := 82) (fun _ _ k => x_iload dX10_readsWays_80 rfl k) ?_
            refine Xi.up (pc' := 83) (L' := [some (zr 2230), some (zi x24), some (zi x24), some (zi l3), some (zi l4), some (zi x20), some (zi x24)]) (fun _ _ k => x_istore_n dX10_readsWays_82 rfl (by decide) rfl k) ?_
            obtain ⟨g133, h⟩ := h
            refine Xi.up (pc' := 86) (L' := [some (zr 2230), some (zi x24), some (zi x24), some (zi (l3 + 1)), some (zi l4), some (zi x20), some (zi x24)]) (fun _ _ k => x_iinc dX10_readsWays_83 rfl g133 (by decide) rfl k) ?_
            refine Xi.up (pc' := 87) (fun _ _ k => x_iload_n dX10_readsWays_86 rfl rfl k) ?_
            refine Xi.up (pc' := 89) (fun _ _ k => x_bipush dX10_readsWays_87 (show inR 6 from ⟨by decide, by decide⟩) (by decide) k) ?_
            refine Xi.br (tgt := 109) (pc' := 92) ((l3 + 1) ≠ 6) (fun _ _ kt kf => x_icmp_ne dX10_readsWays_89 rfl kt kf) (fun c => ?_) (fun c => ?_)
            · have h := h.1 c
              refine Xi.up (pc' := 110) (fun _ _ k => x_aload_n dX10_readsWays_109 rfl rfl k) ?_
              refine Xi.up (pc' := 112) (fun _ _ k => x_bipush dX10_readsWays_110 (show inR 124 from ⟨by decide, by decide⟩) (by decide) k) ?_
              obtain ⟨x135, M134, hc137, hK136, h⟩ := h
              refine Xi.up (pc' := 115) (st' := [zi x135]) (fun _ _ k => x_callVK (ci := 10) (as := [zi 124]) (st := []) hK132 k10_takes lm10_65 dX10_readsWays_112 rfl (by decide) (zs8 rfl) h0.1 ⟨_, _, rfl⟩ hc137 k) ?_
              refine Xi.up (pc' := 117) (L' := [some (zr 2230), some (zi x24), some (zi x24), some (zi (l3 + 1)), some (zi x135), some (zi x20), some (zi x24)]) (fun _ _ k => x_istore dX10_readsWays_115 (by decide) rfl k) ?_
              refine Xi.up (pc' := 20) (fun _ _ k => x_goto dX10_readsWays_117 rfl k) ?_
              exact Xi.up (fun _ _ k => x_less (L' := [some (zr 2230), some (zi x24), some (zi x24), some (zi (l3 + 1)), some (zi x135), none, none]) (⟨rfl, ⟨rfl, ⟨rfl, ⟨rfl, ⟨rfl, trivial⟩⟩⟩⟩⟩) k) h
            · have h := h.2 c
              refine Xi.up (pc' := 93) (fun _ _ k => x_aload_n dX10_readsWays_92 rfl rfl k) ?_
              obtain ⟨x139, M138, hc141, hK140, h⟩ := h
              refine Xi.up (pc' := 96) (st' := [zi x139]) (fun _ _ k => x_callVK (ci := 10) (as := []) (st := []) hK132 k10_peek lm10_61 dX10_readsWays_93 rfl (by decide) (zs8 rfl) h0.1 ⟨_, _, rfl⟩ hc141 k) ?_
              refine Xi.up (pc' := 98) (fun _ _ k => x_bipush dX10_readsWays_96 (show inR 124 from ⟨by decide, by decide⟩) (by decide) k) ?_
              refine Xi.br (tgt := 109) (pc' := 101) (x139 ≠ 124) (fun _ _ kt kf => x_icmp_ne dX10_readsWays_98 rfl kt kf) (fun c => ?_) (fun c => ?_)
              · have h := h.1 c
                refine Xi.up (pc' := 110) (fun _ _ k => x_aload_n dX10_readsWays_109 rfl rfl k) ?_
                refine Xi.up (pc' := 112) (fun _ _ k => x_bipush dX10_readsWays_110 (show inR 124 from ⟨by decide, by decide⟩) (by decide) k) ?_
                obtain ⟨x143, M142, hc145, hK144, h⟩ := h
                refine Xi.up (pc' := 115) (st' := [zi x143]) (fun _ _ k => x_callVK (ci := 10) (as := [zi 124]) (st := []) hK140 k10_takes lm10_65 dX10_readsWays_112 rfl (by decide) (zs8 rfl) h0.1 ⟨_, _, rfl⟩ hc145 k) ?_
                refine Xi.up (pc' := 117) (L' := [some (zr 2230), some (zi x24), some (zi x24), some (zi (l3 + 1)), some (zi x143), some (zi x20), some (zi x24)]) (fun _ _ k => x_istore dX10_readsWays_115 (by decide) rfl k) ?_
                refine Xi.up (pc' := 20) (fun _ _ k => x_goto dX10_readsWays_117 rfl k) ?_
                exact Xi.up (fun _ _ k => x_less (L' := [some (zr 2230), some (zi x24), some (zi x24), some (zi (l3 + 1)), some (zi x143), none, none]) (⟨rfl, ⟨rfl, ⟨rfl, ⟨rfl, ⟨rfl, trivial⟩⟩⟩⟩⟩) k) h
              · have h := h.2 c
                refine Xi.up (pc' := 102) (fun _ _ k => x_aload_n dX10_readsWays_101 rfl rfl k) ?_
                refine Xi.up (pc' := 103) (fun _ _ k => x_aload_n dX10_readsWays_102 rfl rfl k) ?_
                refine Xi.up (pc' := 106) (fun _ _ k => x_getIK hK140 lf10_51 rfl dX10_readsWays_103 h0.1 k) ?_
                obtain ⟨M146, hc148, hK147, h⟩ := h
                refine Xi.up (pc' := 109) (st' := []) (fun _ _ k => x_callVK (ci := 10) (as := [zi (mI M138 2230 2)]) (st := []) hK140 k10_wrong lm10_69 dX10_readsWays_106 rfl (by decide) (zs8 rfl) h0.1 ⟨_, _, rfl⟩ hc148 k) ?_
                refine Xi.up (pc' := 110) (fun _ _ k => x_aload_n dX10_readsWays_109 rfl rfl k) ?_
                refine Xi.up (pc' := 112) (fun _ _ k => x_bipush dX10_readsWays_110 (show inR 124 from ⟨by decide, by decide⟩) (by decide) k) ?_
                obtain ⟨x150, M149, hc152, hK151, h⟩ := h
                refine Xi.up (pc' := 115) (st' := [zi x150]) (fun _ _ k => x_callVK (ci := 10) (as := [zi 124]) (st := []) hK147 k10_takes lm10_65 dX10_readsWays_112 rfl (by decide) (zs8 rfl) h0.1 ⟨_, _, rfl⟩ hc152 k) ?_
                refine Xi.up (pc' := 117) (L' := [some (zr 2230), some (zi x24), some (zi x24), some (zi (l3 + 1)), some (zi x150), some (zi x20), some (zi x24)]) (fun _ _ k => x_istore dX10_readsWays_115 (by decide) rfl k) ?_
                refine Xi.up (pc' := 20) (fun _ _ k => x_goto dX10_readsWays_117 rfl k) ?_
                exact Xi.up (fun _ _ k => x_less (L' := [some (zr 2230), some (zi x24), some (zi x24), some (zi (l3 + 1)), some (zi x150), none, none]) (⟨rfl, ⟨rfl, ⟨rfl, ⟨rfl, ⟨rfl, trivial⟩⟩⟩⟩⟩) k) h
set_option maxHeartbeats 4000000 in
set_option maxRecDepth 20000 in
theorem B10_starts {d : Nat} {K M : ZMem} {Q : ZMem → Prop}  (hK : KW K M) (h0 : ModelAt K 2230) (h : Q (sI (sI (sI (sI (sI M 2230 2 0) 2230 3 (-1)) 2230 4 0) 2230 5 0) 2230 7 0)) : Cv d q10_starts [zr 2230] M Q := by
  refine Cv.of rfl rfl (Nat.le_of_ble_eq_true rfl) (fun w hw x e => by subst e; simp at hw) (L := [some (zr 2230)]) rfl ?_
  refine Xv.up (pc' := 1) (fun _ _ k => x_aload_n dX10_starts_0 rfl rfl k) ?_
  refine Xv.up (pc' := 2) (fun _ _ k => x_iconst dX10_starts_1 (show inR 0 from ⟨by decide, by decide⟩) k) ?_
  refine Xv.up (pc' := 5) (fun _ _ k => x_putIK hK lf10_51 rfl rfl (Or.inl rfl) dX10_starts_2 h0.1 k) ?_
  have hK1 := KW.sI hK 2230 2 0
  refine Xv.up (pc' := 6) (fun _ _ k => x_aload_n dX10_starts_5 rfl rfl k) ?_
  refine Xv.up (pc' := 7) (fun _ _ k => x_iconst dX10_starts_6 (show inR (-1) from ⟨by decide, by decide⟩) k) ?_
  refine Xv.up (pc' := 10) (fun _ _ k => x_putIK hK1 lf10_58 rfl rfl (Or.inl rfl) dX10_starts_7 h0.1 k) ?_
  have hK2 := KW.sI hK1 2230 3 (-1)
  refine Xv.up (pc' := 11) (fun _ _ k => x_aload_n dX10_starts_10 rfl rfl k) ?_
  refine Xv.up (pc' := 12) (fun _ _ k => x_iconst dX10_starts_11 (show inR 0 from ⟨by decide, by decide⟩) k) ?_
  refine Xv.up (pc' := 15) (fun _ _ k => x_putIK hK2 lf10_128 rfl rfl (Or.inl rfl) dX10_starts_12 h0.1 k) ?_
  have hK3 := KW.sI hK2 2230 4 0
  refine Xv.up (pc' := 16) (fun _ _ k => x_aload_n dX10_starts_15 rfl rfl k) ?_
  refine Xv.up (pc' := 17) (fun _ _ k => x_iconst dX10_starts_16 (show inR 0 from ⟨by decide, by decide⟩) k) ?_
  refine Xv.up (pc' := 20) (fun _ _ k => x_putIK hK3 lf10_104 rfl rfl (Or.inl rfl) dX10_starts_17 h0.1 k) ?_
  have hK4 := KW.sI hK3 2230 5 0
  refine Xv.up (pc' := 21) (fun _ _ k => x_aload_n dX10_starts_20 rfl rfl k) ?_
  refine Xv.up (pc' := 22) (fun _ _ k => x_iconst dX10_starts_21 (show inR 0 from ⟨by decide, by decide⟩) k) ?_
  refine Xv.up (pc' := 25) (fun _ _ k => x_putIK hK4 lf10_76 rfl rfl (Or.inl rfl) dX10_starts_22 h0.1 k) ?_
  have hK5 := KW.sI hK4 2230 7 0
  exact Xv.ret ⟨dX10_starts_25, rfl⟩ h
set_option maxHeartbeats 4000000 in
set_option maxRecDepth 20000 in
theorem B10_ends {d : Nat} {K M : ZMem} {Q : Int → ZMem → Prop}  (hK : KW K M) (h0 : ModelAt K 2230) (h : (((mI M 2230 1) ≤ (mI M 2230 2) → (((mI (sI M 2230 1 0) 2230 3) < 0 → (Q 0 (sI M 2230 1 0))) ∧ (¬ ((mI (sI M 2230 1 0) 2230 3) < 0) → ((inR ((-100) - (mI (sI M 2230 1 0) 2230 3))) ∧ Q ((-100) - (mI (sI M 2230 1 0) 2230 3)) (sI M 2230 1 0))))) ∧ (¬ ((mI M 2230 1) ≤ (mI M 2230 2)) → (Cv d q10_wrong [zr 2230, zi (mI M 2230 2)] M (fun M3 => KW K M3 ∧ (((mI (sI M3 2230 1 0) 2230 3) < 0 → (Q 0 (sI M3 2230 1 0))) ∧ (¬ ((mI (sI M3 2230 1 0) 2230 3) < 0) → ((inR ((-100) - (mI (sI M3 2230 1 0) 2230 3))) ∧ Q ((-100) - (mI (sI M3 2230 1 0) 2230 3)) (sI M3 2230 1 0))))))))) : Ci (d + 1) q10_ends [zr 2230] M Q := by
  refine Ci.of rfl rfl (Nat.le_of_ble_eq_true rfl) (fun w hw x e => by subst e; simp at hw) (L := [some (zr 2230)]) rfl ?_
  refine Xi.up (pc' := 1) (fun _ _ k => x_aload_n dX10_ends_0 rfl rfl k) ?_
  refine Xi.up (pc' := 4) (fun _ _ k => x_getIK hK lf10_51 rfl dX10_ends_1 h0.1 k) ?_
  refine Xi.up (pc' := 5) (fun _ _ k => x_aload_n dX10_ends_4 rfl rfl k) ?_
  refine Xi.up (pc' := 8) (fun _ _ k => x_getIK hK lf10_47 rfl dX10_ends_5 h0.1 k) ?_
  refine Xi.br (tgt := 19) (pc' := 11) ((mI M 2230 1) ≤ (mI M 2230 2)) (fun _ _ kt kf => x_icmp_ge dX10_ends_8 rfl kt kf) (fun c => ?_) (fun c => ?_)
  · have h := h.1 c
    refine Xi.up (pc' := 20) (fun _ _ k => x_aload_n dX10_ends_19 rfl rfl k) ?_
    refine Xi.up (pc' := 21) (fun _ _ k => x_iconst dX10_ends_20 (show inR 0 from ⟨by decide, by decide⟩) k) ?_
    refine Xi.up (pc' := 24) (fun _ _ k => x_putIK hK lf10_47 rfl rfl (Or.inl rfl) dX10_ends_21 h0.1 k) ?_
    have hK1 := KW.sI hK 2230 1 0
    refine Xi.up (pc' := 25) (fun _ _ k => x_aload_n dX10_ends_24 rfl rfl k) ?_
    refine Xi.up (pc' := 28) (fun _ _ k => x_getIK hK1 lf10_58 rfl dX10_ends_25 h0.1 k) ?_
    refine Xi.br (tgt := 41) (pc' := 31) ((mI (sI M 2230 1 0) 2230 3) < 0) (fun _ _ kt kf => x_if_lt dX10_ends_28 rfl kt kf) (fun c => ?_) (fun c => ?_)
    · have h := h.1 c
      refine Xi.up (pc' := 42) (fun _ _ k => x_iconst dX10_ends_41 (show inR 0 from ⟨by decide, by decide⟩) k) ?_
      exact Xi.ret ⟨dX10_ends_42, Or.inl rfl⟩ h
    · have h := h.2 c
      refine Xi.up (pc' := 33) (fun _ _ k => x_bipush dX10_ends_31 (show inR (-100) from ⟨by decide, by decide⟩) (by decide) k) ?_
      refine Xi.up (pc' := 34) (fun _ _ k => x_aload_n dX10_ends_33 rfl rfl k) ?_
      refine Xi.up (pc' := 37) (fun _ _ k => x_getIK hK1 lf10_58 rfl dX10_ends_34 h0.1 k) ?_
      obtain ⟨g2, h⟩ := h
      refine Xi.up (pc' := 38) (fun _ _ k => x_isub dX10_ends_37 g2 k) ?_
      refine Xi.up (pc' := 42) (fun _ _ k => x_goto dX10_ends_38 rfl k) ?_
      exact Xi.ret ⟨dX10_ends_42, Or.inl rfl⟩ h
  · have h := h.2 c
    refine Xi.up (pc' := 12) (fun _ _ k => x_aload_n dX10_ends_11 rfl rfl k) ?_
    refine Xi.up (pc' := 13) (fun _ _ k => x_aload_n dX10_ends_12 rfl rfl k) ?_
    refine Xi.up (pc' := 16) (fun _ _ k => x_getIK hK lf10_51 rfl dX10_ends_13 h0.1 k) ?_
    obtain ⟨M3, hc5, hK4, h⟩ := h
    refine Xi.up (pc' := 19) (st' := []) (fun _ _ k => x_callVK (ci := 10) (as := [zi (mI M 2230 2)]) (st := []) hK k10_wrong lm10_69 dX10_ends_16 rfl (by decide) (zs8 rfl) h0.1 ⟨_, _, rfl⟩ hc5 k) ?_
    refine Xi.up (pc' := 20) (fun _ _ k => x_aload_n dX10_ends_19 rfl rfl k) ?_
    refine Xi.up (pc' := 21) (fun _ _ k => x_iconst dX10_ends_20 (show inR 0 from ⟨by decide, by decide⟩) k) ?_
    refine Xi.up (pc' := 24) (fun _ _ k => x_putIK hK4 lf10_47 rfl rfl (Or.inl rfl) dX10_ends_21 h0.1 k) ?_
    have hK6 := KW.sI hK4 2230 1 0
    refine Xi.up (pc' := 25) (fun _ _ k => x_aload_n dX10_ends_24 rfl rfl k) ?_
    refine Xi.up (pc' := 28) (fun _ _ k => x_getIK hK6 lf10_58 rfl dX10_ends_25 h0.1 k) ?_
    refine Xi.br (tgt := 41) (pc' := 31) ((mI (sI M3 2230 1 0) 2230 3) < 0) (fun _ _ kt kf => x_if_lt dX10_ends_28 rfl kt kf) (fun c => ?_) (fun c => ?_)
    · have h := h.1 c
      refine Xi.up (pc' := 42) (fun _ _ k => x_iconst dX10_ends_41 (show inR 0 from ⟨by decide, by decide⟩) k) ?_
      exact Xi.ret ⟨dX10_ends_42, Or.inl rfl⟩ h
    · have h := h.2 c
      refine Xi.up (pc' := 33) (fun _ _ k => x_bipush dX10_ends_31 (show inR (-100) from ⟨by decide, by decide⟩) (by decide) k) ?_
      refine Xi.up (pc' := 34) (fun _ _ k => x_aload_n dX10_ends_33 rfl rfl k) ?_
      refine Xi.up (pc' := 37) (fun _ _ k => x_getIK hK6 lf10_58 rfl dX10_ends_34 h0.1 k) ?_
      obtain ⟨g7, h⟩ := h
      refine Xi.up (pc' := 38) (fun _ _ k => x_isub dX10_ends_37 g7 k) ?_
      refine Xi.up (pc' := 42) (fun _ _ k => x_goto dX10_ends_38 rfl k) ?_
      exact Xi.ret ⟨dX10_ends_42, Or.inl rfl⟩ h
set_option maxHeartbeats 4000000 in
set_option maxRecDepth 20000 in
theorem B10_program {d : Nat} {K M : ZMem} {Q : Int → ZMem → Prop} (a1 : Int) (hK : KW K M) (h0 : ModelAt K 2230) (h : ((0 ≤ a1 ∧ a1 ≤ 3 → (Cv d q10_starts [zr 2230] M (fun M1 => KW K M1 ∧ Ci d q10_readsProgram [zr 2230] M1 (fun x5 M4 => KW K M4 ∧ Ci d q10_ends [zr 2230] M4 (fun x9 M8 => KW K M8 ∧ ((0 ≤ x9 → ((0 ≤ a1) ∧ (a1 < 4) ∧ (0 ≤ a1) ∧ (a1 < 4) ∧ (inR ((mI (sI (sI M8 2237 a1.toNat x5) 2238 a1.toNat (-1)) 2230 6) + 1)) ∧ Q (mI (sI (sI (sI M8 2237 a1.toNat x5) 2238 a1.toNat (-1)) 2230 6 ((mI (sI (sI M8 2237 a1.toNat x5) 2238 a1.toNat (-1)) 2230 6) + 1)) 2230 5) (sI (sI (sI M8 2237 a1.toNat x5) 2238 a1.toNat (-1)) 2230 6 ((mI (sI (sI M8 2237 a1.toNat x5) 2238 a1.toNat (-1)) 2230 6) + 1)))) ∧ (¬ (0 ≤ x9) → (Q x9 M8)))))))) ∧ (¬ (0 ≤ a1 ∧ a1 ≤ 3) → (Q (-2001) M)))) : Ci (d + 1) q10_program [zr 2230, zi a1] M Q := by
  refine Ci.of rfl rfl (Nat.le_of_ble_eq_true rfl) (fun w hw x e => by subst e; simp at hw) (L := [some (zr 2230), some (zi a1), none, none]) rfl ?_
  refine Xi.up (pc' := 1) (fun _ _ k => x_iload_n dX10_program_0 rfl rfl k) ?_
  refine Xi.up (pc' := 2) (fun _ _ k => x_i2l dX10_program_1 k) ?_
  refine Xi.up (pc' := 3) (fun _ _ k => x_lconst (x := 0) dX10_program_2 ⟨by decide, by decide⟩ rfl k) ?_
  refine Xi.up (pc' := 6) (fun _ _ k => x_ldc2 ll10_137 dX10_program_3 (show inL 3 from ⟨by decide, by decide⟩) rfl k) ?_
  by_cases c : 0 ≤ a1 ∧ a1 ≤ 3
  · have h := h.1 c
    refine Xi.up (pc' := 9) (st' := [zi 1]) (fun _ _ k => x_in1 (st := []) lm10_43 dX10_program_6 (zs8 rfl) c k) ?_
    refine Xi.br (tgt := 16) (pc' := 12) ((1 : Int) ≠ 0) (fun _ _ kt kf => x_if_ne dX10_program_9 rfl kt kf) (fun _ => ?_) (fun c => absurd (by decide) c)
    refine Xi.up (pc' := 17) (fun _ _ k => x_aload_n dX10_program_16 rfl rfl k) ?_
    obtain ⟨M1, hc3, hK2, h⟩ := h
    refine Xi.up (pc' := 20) (st' := []) (fun _ _ k => x_callVK (ci := 10) (as := []) (st := []) hK k10_starts lm10_139 dX10_program_17 rfl (by decide) (zs8 rfl) h0.1 ⟨_, _, rfl⟩ hc3 k) ?_
    refine Xi.up (pc' := 21) (fun _ _ k => x_aload_n dX10_program_20 rfl rfl k) ?_
    obtain ⟨x5, M4, hc7, hK6, h⟩ := h
    refine Xi.up (pc' := 24) (st' := [zi x5]) (fun _ _ k => x_callVK (ci := 10) (as := []) (st := []) hK2 k10_readsProgram lm10_134 dX10_program_21 rfl (by decide) (zs8 rfl) h0.1 ⟨_, _, rfl⟩ hc7 k) ?_
    refine Xi.up (pc' := 25) (L' := [some (zr 2230), some (zi a1), some (zi x5), none]) (fun _ _ k => x_istore_n dX10_program_24 rfl (by decide) rfl k) ?_
    refine Xi.up (pc' := 26) (fun _ _ k => x_aload_n dX10_program_25 rfl rfl k) ?_
    obtain ⟨x9, M8, hc11, hK10, h⟩ := h
    refine Xi.up (pc' := 29) (st' := [zi x9]) (fun _ _ k => x_callVK (ci := 10) (as := []) (st := []) hK6 k10_ends lm10_142 dX10_program_26 rfl (by decide) (zs8 rfl) h0.1 ⟨_, _, rfl⟩ hc11 k) ?_
    refine Xi.up (pc' := 30) (L' := [some (zr 2230), some (zi a1), some (zi x5), some (zi x9)]) (fun _ _ k => x_istore_n dX10_program_29 rfl (by decide) rfl k) ?_
    refine Xi.up (pc' := 31) (fun _ _ k => x_iload_n dX10_program_30 rfl rfl k) ?_
    refine Xi.br (tgt := 36) (pc' := 34) (0 ≤ x9) (fun _ _ kt kf => x_if_ge dX10_program_31 rfl kt kf) (fun c => ?_) (fun c => ?_)
    · have h := h.1 c
      refine Xi.up (pc' := 37) (fun _ _ k => x_aload_n dX10_program_36 rfl rfl k) ?_
      refine Xi.up (pc' := 40) (fun _ _ k => x_getRK hK10 lf10_29 rfl dX10_program_37 h0.1 h0.2.2.2.2.2.2.2.1 k) ?_
      refine Xi.up (pc' := 41) (fun _ _ k => x_iload_n dX10_program_40 rfl rfl k) ?_
      refine Xi.up (pc' := 42) (fun _ _ k => x_iload_n dX10_program_41 rfl rfl k) ?_
      obtain ⟨g12, h⟩ := h
      obtain ⟨g13, h⟩ := h
      refine Xi.up (pc' := 43) (fun _ _ k => x_iastoreK hK10 dX10_program_42 h0.2.2.2.2.2.2.2.2.2.2.2.2.2.2.2.2.2.1 g12 g13 k) ?_
      have hK14 := KW.sI hK10 2237 a1.toNat x5
      refine Xi.up (pc' := 44) (fun _ _ k => x_aload_n dX10_program_43 rfl rfl k) ?_
      refine Xi.up (pc' := 47) (fun _ _ k => x_getRK hK14 lf10_32 rfl dX10_program_44 h0.1 h0.2.2.2.2.2.2.2.2.1 k) ?_
      refine Xi.up (pc' := 48) (fun _ _ k => x_iload_n dX10_program_47 rfl rfl k) ?_
      refine Xi.up (pc' := 49) (fun _ _ k => x_iconst dX10_program_48 (show inR (-1) from ⟨by decide, by decide⟩) k) ?_
      obtain ⟨g15, h⟩ := h
      obtain ⟨g16, h⟩ := h
      refine Xi.up (pc' := 50) (fun _ _ k => x_iastoreK hK14 dX10_program_49 h0.2.2.2.2.2.2.2.2.2.2.2.2.2.2.2.2.2.2.1 g15 g16 k) ?_
      have hK17 := KW.sI hK14 2238 a1.toNat (-1)
      refine Xi.up (pc' := 51) (fun _ _ k => x_aload_n dX10_program_50 rfl rfl k) ?_
      refine Xi.up (pc' := 52) (fun _ _ k => x_dupR dX10_program_51 k) ?_
      refine Xi.up (pc' := 55) (fun _ _ k => x_getIK hK17 lf10_73 rfl dX10_program_52 h0.1 k) ?_
      refine Xi.up (pc' := 56) (fun _ _ k => x_iconst dX10_program_55 (show inR 1 from ⟨by decide, by decide⟩) k) ?_
      obtain ⟨g18, h⟩ := h
      refine Xi.up (pc' := 57) (fun _ _ k => x_iadd dX10_program_56 g18 k) ?_
      refine Xi.up (pc' := 60) (fun _ _ k => x_putIK hK17 lf10_73 rfl rfl (Or.inl rfl) dX10_program_57 h0.1 k) ?_
      have hK19 := KW.sI hK17 2230 6 ((mI (sI (sI M8 2237 a1.toNat x5) 2238 a1.toNat (-1)) 2230 6) + 1)
      refine Xi.up (pc' := 61) (fun _ _ k => x_aload_n dX10_program_60 rfl rfl k) ?_
      refine Xi.up (pc' := 64) (fun _ _ k => x_getIK hK19 lf10_104 rfl dX10_program_61 h0.1 k) ?_
      exact Xi.ret ⟨dX10_program_64, Or.inl rfl⟩ h
    · have h := h.2 c
      refine Xi.up (pc' := 35) (fun _ _ k => x_iload_n dX10_program_34 rfl rfl k) ?_
      exact Xi.ret ⟨dX10_program_35, Or.inl rfl⟩ h
  · have h := h.2 c
    refine Xi.up (pc' := 9) (st' := [zi 0]) (fun _ _ k => x_in0 (st := []) lm10_43 dX10_program_6 (zs8 rfl) c k) ?_
    refine Xi.br (tgt := 16) (pc' := 12) ((0 : Int) ≠ 0) (fun _ _ kt kf => x_if_ne dX10_program_9 rfl kt kf) (fun c => absurd c (by decide)) (fun _ => ?_)
    refine Xi.up (pc' := 15) (fun _ _ k => x_sipush dX10_program_12 (show inR (-2001) from ⟨by decide, by decide⟩) (by decide) k) ?_
    exact Xi.ret ⟨dX10_program_15, Or.inl rfl⟩ h
set_option maxHeartbeats 4000000 in
set_option maxRecDepth 20000 in
theorem B10_cost {d : Nat} {K M : ZMem} {Q : Int → ZMem → Prop} (a1 : Int) (hK : KW K M) (h0 : ModelAt K 2230) (h : ((0 ≤ a1 ∧ a1 ≤ 3 → ((0 ≤ a1) ∧ (a1 < 4) ∧ (((mI M 2237 a1.toNat) ≠ (-1) → (Cv d q10_starts [zr 2230] M (fun M3 => KW K M3 ∧ Ci d q10_readsSum [zr 2230] M3 (fun x7 M6 => KW K M6 ∧ Ci d q10_ends [zr 2230] M6 (fun x11 M10 => KW K M10 ∧ ((0 ≤ x11 → ((0 ≤ a1) ∧ (a1 < 4) ∧ (inR ((mI (sI M10 2238 a1.toNat x7) 2230 6) + 1)) ∧ Q 1 (sI (sI M10 2238 a1.toNat x7) 2230 6 ((mI (sI M10 2238 a1.toNat x7) 2230 6) + 1)))) ∧ (¬ (0 ≤ x11) → (Q x11 M10)))))))) ∧ (¬ ((mI M 2237 a1.toNat) ≠ (-1)) → (Q (-2003) M))))) ∧ (¬ (0 ≤ a1 ∧ a1 ≤ 3) → (Q (-2001) M)))) : Ci (d + 1) q10_cost [zr 2230, zi a1] M Q := by
  refine Ci.of rfl rfl (Nat.le_of_ble_eq_true rfl) (fun w hw x e => by subst e; simp at hw) (L := [some (zr 2230), some (zi a1), none, none]) rfl ?_
  refine Xi.up (pc' := 1) (fun _ _ k => x_iload_n dX10_cost_0 rfl rfl k) ?_
  refine Xi.up (pc' := 2) (fun _ _ k => x_i2l dX10_cost_1 k) ?_
  refine Xi.up (pc' := 3) (fun _ _ k => x_lconst (x := 0) dX10_cost_2 ⟨by decide, by decide⟩ rfl k) ?_
  refine Xi.up (pc' := 6) (fun _ _ k => x_ldc2 ll10_137 dX10_cost_3 (show inL 3 from ⟨by decide, by decide⟩) rfl k) ?_
  by_cases c : 0 ≤ a1 ∧ a1 ≤ 3
  · have h := h.1 c
    refine Xi.up (pc' := 9) (st' := [zi 1]) (fun _ _ k => x_in1 (st := []) lm10_43 dX10_cost_6 (zs8 rfl) c k) ?_
    refine Xi.br (tgt := 16) (pc' := 12) ((1 : Int) ≠ 0) (fun _ _ kt kf => x_if_ne dX10_cost_9 rfl kt kf) (fun _ => ?_) (fun c => absurd (by decide) c)
    refine Xi.up (pc' := 17) (fun _ _ k => x_aload_n dX10_cost_16 rfl rfl k) ?_
    refine Xi.up (pc' := 20) (fun _ _ k => x_getRK hK lf10_29 rfl dX10_cost_17 h0.1 h0.2.2.2.2.2.2.2.1 k) ?_
    refine Xi.up (pc' := 21) (fun _ _ k => x_iload_n dX10_cost_20 rfl rfl k) ?_
    obtain ⟨g1, h⟩ := h
    obtain ⟨g2, h⟩ := h
    refine Xi.up (pc' := 22) (fun _ _ k => x_ialoadK hK dX10_cost_21 h0.2.2.2.2.2.2.2.2.2.2.2.2.2.2.2.2.2.1 g1 g2 k) ?_
    refine Xi.up (pc' := 23) (fun _ _ k => x_iconst dX10_cost_22 (show inR (-1) from ⟨by decide, by decide⟩) k) ?_
    refine Xi.br (tgt := 30) (pc' := 26) ((mI M 2237 a1.toNat) ≠ (-1)) (fun _ _ kt kf => x_icmp_ne dX10_cost_23 rfl kt kf) (fun c => ?_) (fun c => ?_)
    · have h := h.1 c
      refine Xi.up (pc' := 31) (fun _ _ k => x_aload_n dX10_cost_30 rfl rfl k) ?_
      obtain ⟨M3, hc5, hK4, h⟩ := h
      refine Xi.up (pc' := 34) (st' := []) (fun _ _ k => x_callVK (ci := 10) (as := []) (st := []) hK k10_starts lm10_139 dX10_cost_31 rfl (by decide) (zs8 rfl) h0.1 ⟨_, _, rfl⟩ hc5 k) ?_
      refine Xi.up (pc' := 35) (fun _ _ k => x_aload_n dX10_cost_34 rfl rfl k) ?_
      obtain ⟨x7, M6, hc9, hK8, h⟩ := h
      refine Xi.up (pc' := 38) (st' := [zi x7]) (fun _ _ k => x_callVK (ci := 10) (as := []) (st := []) hK4 k10_readsSum lm10_107 dX10_cost_35 rfl (by decide) (zs8 rfl) h0.1 ⟨_, _, rfl⟩ hc9 k) ?_
      refine Xi.up (pc' := 39) (L' := [some (zr 2230), some (zi a1), some (zi x7), none]) (fun _ _ k => x_istore_n dX10_cost_38 rfl (by decide) rfl k) ?_
      refine Xi.up (pc' := 40) (fun _ _ k => x_aload_n dX10_cost_39 rfl rfl k) ?_
      obtain ⟨x11, M10, hc13, hK12, h⟩ := h
      refine Xi.up (pc' := 43) (st' := [zi x11]) (fun _ _ k => x_callVK (ci := 10) (as := []) (st := []) hK8 k10_ends lm10_142 dX10_cost_40 rfl (by decide) (zs8 rfl) h0.1 ⟨_, _, rfl⟩ hc13 k) ?_
      refine Xi.up (pc' := 44) (L' := [some (zr 2230), some (zi a1), some (zi x7), some (zi x11)]) (fun _ _ k => x_istore_n dX10_cost_43 rfl (by decide) rfl k) ?_
      refine Xi.up (pc' := 45) (fun _ _ k => x_iload_n dX10_cost_44 rfl rfl k) ?_
      refine Xi.br (tgt := 50) (pc' := 48) (0 ≤ x11) (fun _ _ kt kf => x_if_ge dX10_cost_45 rfl kt kf) (fun c => ?_) (fun c => ?_)
      · have h := h.1 c
        refine Xi.up (pc' := 51) (fun _ _ k => x_aload_n dX10_cost_50 rfl rfl k) ?_
        refine Xi.up (pc' := 54) (fun _ _ k => x_getRK hK12 lf10_32 rfl dX10_cost_51 h0.1 h0.2.2.2.2.2.2.2.2.1 k) ?_
        refine Xi.up (pc' := 55) (fun _ _ k => x_iload_n dX10_cost_54 rfl rfl k) ?_
        refine Xi.up (pc' := 56) (fun _ _ k => x_iload_n dX10_cost_55 rfl rfl k) ?_
        obtain ⟨g14, h⟩ := h
        obtain ⟨g15, h⟩ := h
        refine Xi.up (pc' := 57) (fun _ _ k => x_iastoreK hK12 dX10_cost_56 h0.2.2.2.2.2.2.2.2.2.2.2.2.2.2.2.2.2.2.1 g14 g15 k) ?_
        have hK16 := KW.sI hK12 2238 a1.toNat x7
        refine Xi.up (pc' := 58) (fun _ _ k => x_aload_n dX10_cost_57 rfl rfl k) ?_
        refine Xi.up (pc' := 59) (fun _ _ k => x_dupR dX10_cost_58 k) ?_
        refine Xi.up (pc' := 62) (fun _ _ k => x_getIK hK16 lf10_73 rfl dX10_cost_59 h0.1 k) ?_
        refine Xi.up (pc' := 63) (fun _ _ k => x_iconst dX10_cost_62 (show inR 1 from ⟨by decide, by decide⟩) k) ?_
        obtain ⟨g17, h⟩ := h
        refine Xi.up (pc' := 64) (fun _ _ k => x_iadd dX10_cost_63 g17 k) ?_
        refine Xi.up (pc' := 67) (fun _ _ k => x_putIK hK16 lf10_73 rfl rfl (Or.inl rfl) dX10_cost_64 h0.1 k) ?_
        have hK18 := KW.sI hK16 2230 6 ((mI (sI M10 2238 a1.toNat x7) 2230 6) + 1)
        refine Xi.up (pc' := 68) (fun _ _ k => x_iconst dX10_cost_67 (show inR 1 from ⟨by decide, by decide⟩) k) ?_
        exact Xi.ret ⟨dX10_cost_68, Or.inl rfl⟩ h
      · have h := h.2 c
        refine Xi.up (pc' := 49) (fun _ _ k => x_iload_n dX10_cost_48 rfl rfl k) ?_
        exact Xi.ret ⟨dX10_cost_49, Or.inl rfl⟩ h
    · have h := h.2 c
      refine Xi.up (pc' := 29) (fun _ _ k => x_sipush dX10_cost_26 (show inR (-2003) from ⟨by decide, by decide⟩) (by decide) k) ?_
      exact Xi.ret ⟨dX10_cost_29, Or.inl rfl⟩ h
  · have h := h.2 c
    refine Xi.up (pc' := 9) (st' := [zi 0]) (fun _ _ k => x_in0 (st := []) lm10_43 dX10_cost_6 (zs8 rfl) c k) ?_
    refine Xi.br (tgt := 16) (pc' := 12) ((0 : Int) ≠ 0) (fun _ _ kt kf => x_if_ne dX10_cost_9 rfl kt kf) (fun c => absurd c (by decide)) (fun _ => ?_)
    refine Xi.up (pc' := 15) (fun _ _ k => x_sipush dX10_cost_12 (show inR (-2001) from ⟨by decide, by decide⟩) (by decide) k) ?_
    exact Xi.ret ⟨dX10_cost_15, Or.inl rfl⟩ h
set_option maxHeartbeats 4000000 in
set_option maxRecDepth 20000 in
theorem B10_works {d : Nat} {K M : ZMem} {Q : Int → ZMem → Prop} (a1 : Int) (a2 : Int) (hK : KW K M) (h0 : ModelAt K 2230) (h : (0 ≤ a2) ∧ (a2 < 70200) ∧ (((mI M 2232 a2.toNat) = 1 → ((0 ≤ a2) ∧ (a2 < 70200) ∧ (((mI M 2230 19) = 0 → (((mI (sI M 2230 19 0) 2230 19) = 0 → (Q 0 (sI M 2230 19 0))) ∧ (¬ ((mI (sI M 2230 19 0) 2230 19) = 0) → (Q (mI M 2233 a2.toNat) (sI M 2230 19 0))))) ∧ (¬ ((mI M 2230 19) = 0) → (((-999) ≤ (mI M 2233 a2.toNat) ∧ (mI M 2233 a2.toNat) ≤ 999 → (((mI (sI M 2230 19 1) 2230 19) = 0 → (Q 0 (sI M 2230 19 1))) ∧ (¬ ((mI (sI M 2230 19 1) 2230 19) = 0) → (Q (mI M 2233 a2.toNat) (sI M 2230 19 1))))) ∧ (¬ ((-999) ≤ (mI M 2233 a2.toNat) ∧ (mI M 2233 a2.toNat) ≤ 999) → (((mI (sI M 2230 19 0) 2230 19) = 0 → (Q 0 (sI M 2230 19 0))) ∧ (¬ ((mI (sI M 2230 19 0) 2230 19) = 0) → (Q (mI M 2233 a2.toNat) (sI M 2230 19 0)))))))))) ∧ ((mI M 2232 a2.toNat) = 2 → ((0 ≤ a2) ∧ (a2 < 70200) ∧ (inR (a1 + (mI M 2233 a2.toNat))) ∧ (0 ≤ (a1 + (mI M 2233 a2.toNat))) ∧ ((a1 + (mI M 2233 a2.toNat)) < 19245) ∧ (((mI M 2230 19) = 0 → (((mI (sI M 2230 19 0) 2230 19) = 0 → (Q 0 (sI M 2230 19 0))) ∧ (¬ ((mI (sI M 2230 19 0) 2230 19) = 0) → (Q (mI M 2239 (a1 + (mI M 2233 a2.toNat)).toNat) (sI M 2230 19 0))))) ∧ (¬ ((mI M 2230 19) = 0) → (((-999) ≤ (mI M 2239 (a1 + (mI M 2233 a2.toNat)).toNat) ∧ (mI M 2239 (a1 + (mI M 2233 a2.toNat)).toNat) ≤ 999 → (((mI (sI M 2230 19 1) 2230 19) = 0 → (Q 0 (sI M 2230 19 1))) ∧ (¬ ((mI (sI M 2230 19 1) 2230 19) = 0) → (Q (mI M 2239 (a1 + (mI M 2233 a2.toNat)).toNat) (sI M 2230 19 1))))) ∧ (¬ ((-999) ≤ (mI M 2239 (a1 + (mI M 2233 a2.toNat)).toNat) ∧ (mI M 2239 (a1 + (mI M 2233 a2.toNat)).toNat) ≤ 999) → (((mI (sI M 2230 19 0) 2230 19) = 0 → (Q 0 (sI M 2230 19 0))) ∧ (¬ ((mI (sI M 2230 19 0) 2230 19) = 0) → (Q (mI M 2239 (a1 + (mI M 2233 a2.toNat)).toNat) (sI M 2230 19 0)))))))))) ∧ ((mI M 2232 a2.toNat) = 6 → ((0 ≤ a2) ∧ (a2 < 70200) ∧ Ci d q10_works [zr 2230, zi a1, zi (mI M 2233 a2.toNat)] M (fun x19 M18 => KW K M18 ∧ (inR (-x19)) ∧ (((mI M18 2230 19) = 0 → (((mI (sI M18 2230 19 0) 2230 19) = 0 → (Q 0 (sI M18 2230 19 0))) ∧ (¬ ((mI (sI M18 2230 19 0) 2230 19) = 0) → (Q (-x19) (sI M18 2230 19 0))))) ∧ (¬ ((mI M18 2230 19) = 0) → (((-999) ≤ (-x19) ∧ (-x19) ≤ 999 → (((mI (sI M18 2230 19 1) 2230 19) = 0 → (Q 0 (sI M18 2230 19 1))) ∧ (¬ ((mI (sI M18 2230 19 1) 2230 19) = 0) → (Q (-x19) (sI M18 2230 19 1))))) ∧ (¬ ((-999) ≤ (-x19) ∧ (-x19) ≤ 999) → (((mI (sI M18 2230 19 0) 2230 19) = 0 → (Q 0 (sI M18 2230 19 0))) ∧ (¬ ((mI (sI M18 2230 19 0) 2230 19) = 0) → (Q (-x19) (sI M18 2230 19 0))))))))))) ∧ ((mI M 2232 a2.toNat) ≠ 1 ∧ (mI M 2232 a2.toNat) ≠ 2 ∧ (mI M 2232 a2.toNat) ≠ 6 → ((0 ≤ a2) ∧ (a2 < 70200) ∧ Ci d q10_works [zr 2230, zi a1, zi (mI M 2233 a2.toNat)] M (fun x29 M28 => KW K M28 ∧ (0 ≤ a2) ∧ (a2 < 70200) ∧ Ci d q10_works [zr 2230, zi a1, zi (mI M28 2234 a2.toNat)] M28 (fun x35 M34 => KW K M34 ∧ (0 ≤ a2) ∧ (a2 < 70200) ∧ (((mI M34 2232 a2.toNat) ≠ 3 → ((0 ≤ a2) ∧ (a2 < 70200) ∧ (((mI M34 2232 a2.toNat) ≠ 4 → ((inR (x29 * x35)) ∧ (((mI M34 2230 19) = 0 → (((mI (sI M34 2230 19 0) 2230 19) = 0 → (Q 0 (sI M34 2230 19 0))) ∧ (¬ ((mI (sI M34 2230 19 0) 2230 19) = 0) → (Q (x29 * x35) (sI M34 2230 19 0))))) ∧ (¬ ((mI M34 2230 19) = 0) → (((-999) ≤ (x29 * x35) ∧ (x29 * x35) ≤ 999 → (((mI (sI M34 2230 19 1) 2230 19) = 0 → (Q 0 (sI M34 2230 19 1))) ∧ (¬ ((mI (sI M34 2230 19 1) 2230 19) = 0) → (Q (x29 * x35) (sI M34 2230 19 1))))) ∧ (¬ ((-999) ≤ (x29 * x35) ∧ (x29 * x35) ≤ 999) → (((mI (sI M34 2230 19 0) 2230 19) = 0 → (Q 0 (sI M34 2230 19 0))) ∧ (¬ ((mI (sI M34 2230 19 0) 2230 19) = 0) → (Q (x29 * x35) (sI M34 2230 19 0)))))))))) ∧ (¬ ((mI M34 2232 a2.toNat) ≠ 4) → ((inR (x29 - x35)) ∧ (((mI M34 2230 19) = 0 → (((mI (sI M34 2230 19 0) 2230 19) = 0 → (Q 0 (sI M34 2230 19 0))) ∧ (¬ ((mI (sI M34 2230 19 0) 2230 19) = 0) → (Q (x29 - x35) (sI M34 2230 19 0))))) ∧ (¬ ((mI M34 2230 19) = 0) → (((-999) ≤ (x29 - x35) ∧ (x29 - x35) ≤ 999 → (((mI (sI M34 2230 19 1) 2230 19) = 0 → (Q 0 (sI M34 2230 19 1))) ∧ (¬ ((mI (sI M34 2230 19 1) 2230 19) = 0) → (Q (x29 - x35) (sI M34 2230 19 1))))) ∧ (¬ ((-999) ≤ (x29 - x35) ∧ (x29 - x35) ≤ 999) → (((mI (sI M34 2230 19 0) 2230 19) = 0 → (Q 0 (sI M34 2230 19 0))) ∧ (¬ ((mI (sI M34 2230 19 0) 2230 19) = 0) → (Q (x29 - x35) (sI M34 2230 19 0))))))))))))) ∧ (¬ ((mI M34 2232 a2.toNat) ≠ 3) → ((inR (x29 + x35)) ∧ (((mI M34 2230 19) = 0 → (((mI (sI M34 2230 19 0) 2230 19) = 0 → (Q 0 (sI M34 2230 19 0))) ∧ (¬ ((mI (sI M34 2230 19 0) 2230 19) = 0) → (Q (x29 + x35) (sI M34 2230 19 0))))) ∧ (¬ ((mI M34 2230 19) = 0) → (((-999) ≤ (x29 + x35) ∧ (x29 + x35) ≤ 999 → (((mI (sI M34 2230 19 1) 2230 19) = 0 → (Q 0 (sI M34 2230 19 1))) ∧ (¬ ((mI (sI M34 2230 19 1) 2230 19) = 0) → (Q (x29 + x35) (sI M34 2230 19 1))))) ∧ (¬ ((-999) ≤ (x29 + x35) ∧ (x29 + x35) ≤ 999) → (((mI (sI M34 2230 19 0) 2230 19) = 0 → (Q 0 (sI M34 2230 19 0))) ∧ (¬ ((mI (sI M34 2230 19 0) 2230 19) = 0) → (Q (x29 + x35) (sI M34 2230 19 0))))))))))))))))) : Ci (d + 1) q10_works [zr 2230, zi a1, zi a2] M Q := by
  refine Ci.of rfl rfl (Nat.le_of_ble_eq_true rfl) (fun w hw x e => by subst e; simp at hw) (L := [some (zr 2230), some (zi a1), some (zi a2), none, none, none]) rfl ?_
  refine Xi.up (pc' := 1) (fun _ _ k => x_iconst dX10_works_0 (show inR 0 from ⟨by decide, by decide⟩) k) ?_
  refine Xi.up (pc' := 2) (L' := [some (zr 2230), some (zi a1), some (zi a2), some (zi 0), none, none]) (fun _ _ k => x_istore_n dX10_works_1 rfl (by decide) rfl k) ?_
  refine Xi.up (pc' := 3) (fun _ _ k => x_aload_n dX10_works_2 rfl rfl k) ?_
  refine Xi.up (pc' := 6) (fun _ _ k => x_getRK hK lf10_14 rfl dX10_works_3 h0.1 h0.2.2.1 k) ?_
  refine Xi.up (pc' := 7) (fun _ _ k => x_iload_n dX10_works_6 rfl rfl k) ?_
  obtain ⟨g1, h⟩ := h
  obtain ⟨g2, h⟩ := h
  refine Xi.up (pc' := 8) (fun _ _ k => x_ialoadK hK dX10_works_7 h0.2.2.2.2.2.2.2.2.2.2.2.2.1 g1 g2 k) ?_
  by_cases c0 : (mI M 2232 a2.toNat) = 1
  · refine Xi.up (pc' := 44) (fun _ _ k => x_lookup dX10_works_8 rfl (off := 36) (by rw [c0]; rfl) rfl k) ?_
    have h := h.1 c0
    refine Xi.up (pc' := 45) (fun _ _ k => x_aload_n dX10_works_44 rfl rfl k) ?_
    refine Xi.up (pc' := 48) (fun _ _ k => x_getRK hK lf10_17 rfl dX10_works_45 h0.1 h0.2.2.2.1 k) ?_
    refine Xi.up (pc' := 49) (fun _ _ k => x_iload_n dX10_works_48 rfl rfl k) ?_
    obtain ⟨g3, h⟩ := h
    obtain ⟨g4, h⟩ := h
    refine Xi.up (pc' := 50) (fun _ _ k => x_ialoadK hK dX10_works_49 h0.2.2.2.2.2.2.2.2.2.2.2.2.2.1 g3 g4 k) ?_
    refine Xi.up (pc' := 51) (L' := [some (zr 2230), some (zi a1), some (zi a2), some (zi (mI M 2233 a2.toNat)), none, none]) (fun _ _ k => x_istore_n dX10_works_50 rfl (by decide) rfl k) ?_
    refine Xi.up (pc' := 155) (fun _ _ k => x_goto dX10_works_51 rfl k) ?_
    refine Xi.up (pc' := 156) (fun _ _ k => x_aload_n dX10_works_155 rfl rfl k) ?_
    refine Xi.up (pc' := 157) (fun _ _ k => x_aload_n dX10_works_156 rfl rfl k) ?_
    refine Xi.up (pc' := 160) (fun _ _ k => x_getIK hK lf10_148 rfl dX10_works_157 h0.1 k) ?_
    refine Xi.br (tgt := 181) (pc' := 163) ((mI M 2230 19) = 0) (fun _ _ kt kf => x_if_eq dX10_works_160 rfl kt kf) (fun c => ?_) (fun c => ?_)
    · have h := h.1 c
      refine Xi.up (pc' := 182) (fun _ _ k => x_iconst dX10_works_181 (show inR 0 from ⟨by decide, by decide⟩) k) ?_
      refine Xi.up (pc' := 185) (fun _ _ k => x_putIK hK lf10_148 rfl rfl (Or.inr (Or.inl rfl)) dX10_works_182 h0.1 k) ?_
      have hK5 := KW.sI hK 2230 19 0
      refine Xi.up (pc' := 186) (fun _ _ k => x_aload_n dX10_works_185 rfl rfl k) ?_
      refine Xi.up (pc' := 189) (fun _ _ k => x_getIK hK5 lf10_148 rfl dX10_works_186 h0.1 k) ?_
      refine Xi.br (tgt := 196) (pc' := 192) ((mI (sI M 2230 19 0) 2230 19) = 0) (fun _ _ kt kf => x_if_eq dX10_works_189 rfl kt kf) (fun c => ?_) (fun c => ?_)
      · have h := h.1 c
        refine Xi.up (pc' := 197) (fun _ _ k => x_iconst dX10_works_196 (show inR 0 from ⟨by decide, by decide⟩) k) ?_
        exact Xi.ret ⟨dX10_works_197, Or.inl rfl⟩ h
      · have h := h.2 c
        refine Xi.up (pc' := 193) (fun _ _ k => x_iload_n dX10_works_192 rfl rfl k) ?_
        refine Xi.up (pc' := 197) (fun _ _ k => x_goto dX10_works_193 rfl k) ?_
        exact Xi.ret ⟨dX10_works_197, Or.inl rfl⟩ h
    · have h := h.2 c
      refine Xi.up (pc' := 164) (fun _ _ k => x_iload_n dX10_works_163 rfl rfl k) ?_
      refine Xi.up (pc' := 165) (fun _ _ k => x_i2l dX10_works_164 k) ?_
      refine Xi.up (pc' := 168) (fun _ _ k => x_ldc2 ll10_152 dX10_works_165 (show inL (-999) from ⟨by decide, by decide⟩) rfl k) ?_
      refine Xi.up (pc' := 171) (fun _ _ k => x_ldc2 ll10_154 dX10_works_168 (show inL 999 from ⟨by decide, by decide⟩) rfl k) ?_
      by_cases c : (-999) ≤ (mI M 2233 a2.toNat) ∧ (mI M 2233 a2.toNat) ≤ 999
      · have h := h.1 c
        refine Xi.up (pc' := 174) (st' := [zi 1, zr 2230]) (fun _ _ k => x_in1 (st := [zr 2230]) lm10_43 dX10_works_171 (zs8 rfl) c k) ?_
        refine Xi.br (tgt := 181) (pc' := 177) ((1 : Int) = 0) (fun _ _ kt kf => x_if_eq dX10_works_174 rfl kt kf) (fun c => absurd c (by decide)) (fun _ => ?_)
        refine Xi.up (pc' := 178) (fun _ _ k => x_iconst dX10_works_177 (show inR 1 from ⟨by decide, by decide⟩) k) ?_
        refine Xi.up (pc' := 182) (fun _ _ k => x_goto dX10_works_178 rfl k) ?_
        refine Xi.up (pc' := 185) (fun _ _ k => x_putIK hK lf10_148 rfl rfl (Or.inr (Or.inr rfl)) dX10_works_182 h0.1 k) ?_
        have hK6 := KW.sI hK 2230 19 1
        refine Xi.up (pc' := 186) (fun _ _ k => x_aload_n dX10_works_185 rfl rfl k) ?_
        refine Xi.up (pc' := 189) (fun _ _ k => x_getIK hK6 lf10_148 rfl dX10_works_186 h0.1 k) ?_
        refine Xi.br (tgt := 196) (pc' := 192) ((mI (sI M 2230 19 1) 2230 19) = 0) (fun _ _ kt kf => x_if_eq dX10_works_189 rfl kt kf) (fun c => ?_) (fun c => ?_)
        · have h := h.1 c
          refine Xi.up (pc' := 197) (fun _ _ k => x_iconst dX10_works_196 (show inR 0 from ⟨by decide, by decide⟩) k) ?_
          exact Xi.ret ⟨dX10_works_197, Or.inl rfl⟩ h
        · have h := h.2 c
          refine Xi.up (pc' := 193) (fun _ _ k => x_iload_n dX10_works_192 rfl rfl k) ?_
          refine Xi.up (pc' := 197) (fun _ _ k => x_goto dX10_works_193 rfl k) ?_
          exact Xi.ret ⟨dX10_works_197, Or.inl rfl⟩ h
      · have h := h.2 c
        refine Xi.up (pc' := 174) (st' := [zi 0, zr 2230]) (fun _ _ k => x_in0 (st := [zr 2230]) lm10_43 dX10_works_171 (zs8 rfl) c k) ?_
        refine Xi.br (tgt := 181) (pc' := 177) ((0 : Int) = 0) (fun _ _ kt kf => x_if_eq dX10_works_174 rfl kt kf) (fun _ => ?_) (fun c => absurd (by decide) c)
        refine Xi.up (pc' := 182) (fun _ _ k => x_iconst dX10_works_181 (show inR 0 from ⟨by decide, by decide⟩) k) ?_
        refine Xi.up (pc' := 185) (fun _ _ k => x_putIK hK lf10_148 rfl rfl (Or.inr (Or.inl rfl)) dX10_works_182 h0.1 k) ?_
        have hK7 := KW.sI hK 2230 19 0
        refine Xi.up (pc' := 186) (fun _ _ k => x_aload_n dX10_works_185 rfl rfl k) ?_
        refine Xi.up (pc' := 189) (fun _ _ k => x_getIK hK7 lf10_148 rfl dX10_works_186 h0.1 k) ?_
        refine Xi.br (tgt := 196) (pc' := 192) ((mI (sI M 2230 19 0) 2230 19) = 0) (fun _ _ kt kf => x_if_eq dX10_works_189 rfl kt kf) (fun c => ?_) (fun c => ?_)
        · have h := h.1 c
          refine Xi.up (pc' := 197) (fun _ _ k => x_iconst dX10_works_196 (show inR 0 from ⟨by decide, by decide⟩) k) ?_
          exact Xi.ret ⟨dX10_works_197, Or.inl rfl⟩ h
        · have h := h.2 c
          refine Xi.up (pc' := 193) (fun _ _ k => x_iload_n dX10_works_192 rfl rfl k) ?_
          refine Xi.up (pc' := 197) (fun _ _ k => x_goto dX10_works_193 rfl k) ?_
          exact Xi.ret ⟨dX10_works_197, Or.inl rfl⟩ h
  · skip
    by_cases c1 : (mI M 2232 a2.toNat) = 2
    · refine Xi.up (pc' := 54) (fun _ _ k => x_lookup dX10_works_8 rfl (off := 46) (by rw [c1]; rfl) rfl k) ?_
      have h := h.2.1 c1
      refine Xi.up (pc' := 55) (fun _ _ k => x_aload_n dX10_works_54 rfl rfl k) ?_
      refine Xi.up (pc' := 58) (fun _ _ k => x_getRK hK lf10_35 rfl dX10_works_55 h0.1 h0.2.2.2.2.2.2.2.2.2.1 k) ?_
      refine Xi.up (pc' := 59) (fun _ _ k => x_iload_n dX10_works_58 rfl rfl k) ?_
      refine Xi.up (pc' := 60) (fun _ _ k => x_aload_n dX10_works_59 rfl rfl k) ?_
      refine Xi.up (pc' := 63) (fun _ _ k => x_getRK hK lf10_17 rfl dX10_works_60 h0.1 h0.2.2.2.1 k) ?_
      refine Xi.up (pc' := 64) (fun _ _ k => x_iload_n dX10_works_63 rfl rfl k) ?_
      obtain ⟨g8, h⟩ := h
      obtain ⟨g9, h⟩ := h
      refine Xi.up (pc' := 65) (fun _ _ k => x_ialoadK hK dX10_works_64 h0.2.2.2.2.2.2.2.2.2.2.2.2.2.1 g8 g9 k) ?_
      obtain ⟨g10, h⟩ := h
      refine Xi.up (pc' := 66) (fun _ _ k => x_iadd dX10_works_65 g10 k) ?_
      obtain ⟨g11, h⟩ := h
      obtain ⟨g12, h⟩ := h
      refine Xi.up (pc' := 67) (fun _ _ k => x_ialoadK hK dX10_works_66 h0.2.2.2.2.2.2.2.2.2.2.2.2.2.2.2.2.2.2.2.1 g11 g12 k) ?_
      refine Xi.up (pc' := 68) (L' := [some (zr 2230), some (zi a1), some (zi a2), some (zi (mI M 2239 (a1 + (mI M 2233 a2.toNat)).toNat)), none, none]) (fun _ _ k => x_istore_n dX10_works_67 rfl (by decide) rfl k) ?_
      refine Xi.up (pc' := 155) (fun _ _ k => x_goto dX10_works_68 rfl k) ?_
      refine Xi.up (pc' := 156) (fun _ _ k => x_aload_n dX10_works_155 rfl rfl k) ?_
      refine Xi.up (pc' := 157) (fun _ _ k => x_aload_n dX10_works_156 rfl rfl k) ?_
      refine Xi.up (pc' := 160) (fun _ _ k => x_getIK hK lf10_148 rfl dX10_works_157 h0.1 k) ?_
      refine Xi.br (tgt := 181) (pc' := 163) ((mI M 2230 19) = 0) (fun _ _ kt kf => x_if_eq dX10_works_160 rfl kt kf) (fun c => ?_) (fun c => ?_)
      · have h := h.1 c
        refine Xi.up (pc' := 182) (fun _ _ k => x_iconst dX10_works_181 (show inR 0 from ⟨by decide, by decide⟩) k) ?_
        refine Xi.up (pc' := 185) (fun _ _ k => x_putIK hK lf10_148 rfl rfl (Or.inr (Or.inl rfl)) dX10_works_182 h0.1 k) ?_
        have hK13 := KW.sI hK 2230 19 0
        refine Xi.up (pc' := 186) (fun _ _ k => x_aload_n dX10_works_185 rfl rfl k) ?_
        refine Xi.up (pc' := 189) (fun _ _ k => x_getIK hK13 lf10_148 rfl dX10_works_186 h0.1 k) ?_
        refine Xi.br (tgt := 196) (pc' := 192) ((mI (sI M 2230 19 0) 2230 19) = 0) (fun _ _ kt kf => x_if_eq dX10_works_189 rfl kt kf) (fun c => ?_) (fun c => ?_)
        · have h := h.1 c
          refine Xi.up (pc' := 197) (fun _ _ k => x_iconst dX10_works_196 (show inR 0 from ⟨by decide, by decide⟩) k) ?_
          exact Xi.ret ⟨dX10_works_197, Or.inl rfl⟩ h
        · have h := h.2 c
          refine Xi.up (pc' := 193) (fun _ _ k => x_iload_n dX10_works_192 rfl rfl k) ?_
          refine Xi.up (pc' := 197) (fun _ _ k => x_goto dX10_works_193 rfl k) ?_
          exact Xi.ret ⟨dX10_works_197, Or.inl rfl⟩ h
      · have h := h.2 c
        refine Xi.up (pc' := 164) (fun _ _ k => x_iload_n dX10_works_163 rfl rfl k) ?_
        refine Xi.up (pc' := 165) (fun _ _ k => x_i2l dX10_works_164 k) ?_
        refine Xi.up (pc' := 168) (fun _ _ k => x_ldc2 ll10_152 dX10_works_165 (show inL (-999) from ⟨by decide, by decide⟩) rfl k) ?_
        refine Xi.up (pc' := 171) (fun _ _ k => x_ldc2 ll10_154 dX10_works_168 (show inL 999 from ⟨by decide, by decide⟩) rfl k) ?_
        by_cases c : (-999) ≤ (mI M 2239 (a1 + (mI M 2233 a2.toNat)).toNat) ∧ (mI M 2239 (a1 + (mI M 2233 a2.toNat)).toNat) ≤ 999
        · have h := h.1 c
          refine Xi.up (pc' := 174) (st' := [zi 1, zr 2230]) (fun _ _ k => x_in1 (st := [zr 2230]) lm10_43 dX10_works_171 (zs8 rfl) c k) ?_
          refine Xi.br (tgt := 181) (pc' := 177) ((1 : Int) = 0) (fun _ _ kt kf => x_if_eq dX10_works_174 rfl kt kf) (fun c => absurd c (by decide)) (fun _ => ?_)
          refine Xi.up (pc' := 178) (fun _ _ k => x_iconst dX10_works_177 (show inR 1 from ⟨by decide, by decide⟩) k) ?_
          refine Xi.up (pc' := 182) (fun _ _ k => x_goto dX10_works_178 rfl k) ?_
          refine Xi.up (pc' := 185) (fun _ _ k => x_putIK hK lf10_148 rfl rfl (Or.inr (Or.inr rfl)) dX10_works_182 h0.1 k) ?_
          have hK14 := KW.sI hK 2230 19 1
          refine Xi.up (pc' := 186) (fun _ _ k => x_aload_n dX10_works_185 rfl rfl k) ?_
          refine Xi.up (pc' := 189) (fun _ _ k => x_getIK hK14 lf10_148 rfl dX10_works_186 h0.1 k) ?_
          refine Xi.br (tgt := 196) (pc' := 192) ((mI (sI M 2230 19 1) 2230 19) = 0) (fun _ _ kt kf => x_if_eq dX10_works_189 rfl kt kf) (fun c => ?_) (fun c => ?_)
          · have h := h.1 c
            refine Xi.up (pc' := 197) (fun _ _ k => x_iconst dX10_works_196 (show inR 0 from ⟨by decide, by decide⟩) k) ?_
            exact Xi.ret ⟨dX10_works_197, Or.inl rfl⟩ h
          · have h := h.2 c
            refine Xi.up (pc' := 193) (fun _ _ k => x_iload_n dX10_works_192 rfl rfl k) ?_
            refine Xi.up (pc' := 197) (fun _ _ k => x_goto dX10_works_193 rfl k) ?_
            exact Xi.ret ⟨dX10_works_197, Or.inl rfl⟩ h
        · have h := h.2 c
          refine Xi.up (pc' := 174) (st' := [zi 0, zr 2230]) (fun _ _ k => x_in0 (st := [zr 2230]) lm10_43 dX10_works_171 (zs8 rfl) c k) ?_
          refine Xi.br (tgt := 181) (pc' := 177) ((0 : Int) = 0) (fun _ _ kt kf => x_if_eq dX10_works_174 rfl kt kf) (fun _ => ?_) (fun c => absurd (by decide) c)
          refine Xi.up (pc' := 182) (fun _ _ k => x_iconst dX10_works_181 (show inR 0 from ⟨by decide, by decide⟩) k) ?_
          refine Xi.up (pc' := 185) (fun _ _ k => x_putIK hK lf10_148 rfl rfl (Or.inr (Or.inl rfl)) dX10_works_182 h0.1 k) ?_
          have hK15 := KW.sI hK 2230 19 0
          refine Xi.up (pc' := 186) (fun _ _ k => x_aload_n dX10_works_185 rfl rfl k) ?_
          refine Xi.up (pc' := 189) (fun _ _ k => x_getIK hK15 lf10_148 rfl dX10_works_186 h0.1 k) ?_
          refine Xi.br (tgt := 196) (pc' := 192) ((mI (sI M 2230 19 0) 2230 19) = 0) (fun _ _ kt kf => x_if_eq dX10_works_189 rfl kt kf) (fun c => ?_) (fun c => ?_)
          · have h := h.1 c
            refine Xi.up (pc' := 197) (fun _ _ k => x_iconst dX10_works_196 (show inR 0 from ⟨by decide, by decide⟩) k) ?_
            exact Xi.ret ⟨dX10_works_197, Or.inl rfl⟩ h
          · have h := h.2 c
            refine Xi.up (pc' := 193) (fun _ _ k => x_iload_n dX10_works_192 rfl rfl k) ?_
            refine Xi.up (pc' := 197) (fun _ _ k => x_goto dX10_works_193 rfl k) ?_
            exact Xi.ret ⟨dX10_works_197, Or.inl rfl⟩ h
    · skip
      by_cases c2 : (mI M 2232 a2.toNat) = 6
      · refine Xi.up (pc' := 71) (fun _ _ k => x_lookup dX10_works_8 rfl (off := 63) (by rw [c2]; rfl) rfl k) ?_
        have h := h.2.2.1 c2
        refine Xi.up (pc' := 72) (fun _ _ k => x_aload_n dX10_works_71 rfl rfl k) ?_
        refine Xi.up (pc' := 73) (fun _ _ k => x_iload_n dX10_works_72 rfl rfl k) ?_
        refine Xi.up (pc' := 74) (fun _ _ k => x_aload_n dX10_works_73 rfl rfl k) ?_
        refine Xi.up (pc' := 77) (fun _ _ k => x_getRK hK lf10_17 rfl dX10_works_74 h0.1 h0.2.2.2.1 k) ?_
        refine Xi.up (pc' := 78) (fun _ _ k => x_iload_n dX10_works_77 rfl rfl k) ?_
        obtain ⟨g16, h⟩ := h
        obtain ⟨g17, h⟩ := h
        refine Xi.up (pc' := 79) (fun _ _ k => x_ialoadK hK dX10_works_78 h0.2.2.2.2.2.2.2.2.2.2.2.2.2.1 g16 g17 k) ?_
        obtain ⟨x19, M18, hc21, hK20, h⟩ := h
        refine Xi.up (pc' := 82) (st' := [zi x19]) (fun _ _ k => x_callVK (ci := 10) (as := [zi a1, zi (mI M 2233 a2.toNat)]) (st := []) hK k10_works lm10_145 dX10_works_79 rfl (by decide) (zs8 rfl) h0.1 ⟨_, _, rfl⟩ hc21 k) ?_
        obtain ⟨g22, h⟩ := h
        refine Xi.up (pc' := 83) (fun _ _ k => x_ineg dX10_works_82 g22 k) ?_
        refine Xi.up (pc' := 84) (L' := [some (zr 2230), some (zi a1), some (zi a2), some (zi (-x19)), none, none]) (fun _ _ k => x_istore_n dX10_works_83 rfl (by decide) rfl k) ?_
        refine Xi.up (pc' := 155) (fun _ _ k => x_goto dX10_works_84 rfl k) ?_
        refine Xi.up (pc' := 156) (fun _ _ k => x_aload_n dX10_works_155 rfl rfl k) ?_
        refine Xi.up (pc' := 157) (fun _ _ k => x_aload_n dX10_works_156 rfl rfl k) ?_
        refine Xi.up (pc' := 160) (fun _ _ k => x_getIK hK20 lf10_148 rfl dX10_works_157 h0.1 k) ?_
        refine Xi.br (tgt := 181) (pc' := 163) ((mI M18 2230 19) = 0) (fun _ _ kt kf => x_if_eq dX10_works_160 rfl kt kf) (fun c => ?_) (fun c => ?_)
        · have h := h.1 c
          refine Xi.up (pc' := 182) (fun _ _ k => x_iconst dX10_works_181 (show inR 0 from ⟨by decide, by decide⟩) k) ?_
          refine Xi.up (pc' := 185) (fun _ _ k => x_putIK hK20 lf10_148 rfl rfl (Or.inr (Or.inl rfl)) dX10_works_182 h0.1 k) ?_
          have hK23 := KW.sI hK20 2230 19 0
          refine Xi.up (pc' := 186) (fun _ _ k => x_aload_n dX10_works_185 rfl rfl k) ?_
          refine Xi.up (pc' := 189) (fun _ _ k => x_getIK hK23 lf10_148 rfl dX10_works_186 h0.1 k) ?_
          refine Xi.br (tgt := 196) (pc' := 192) ((mI (sI M18 2230 19 0) 2230 19) = 0) (fun _ _ kt kf => x_if_eq dX10_works_189 rfl kt kf) (fun c => ?_) (fun c => ?_)
          · have h := h.1 c
            refine Xi.up (pc' := 197) (fun _ _ k => x_iconst dX10_works_196 (show inR 0 from ⟨by decide, by decide⟩) k) ?_
            exact Xi.ret ⟨dX10_works_197, Or.inl rfl⟩ h
          · have h := h.2 c
            refine Xi.up (pc' := 193) (fun _ _ k => x_iload_n dX10_works_192 rfl rfl k) ?_
            refine Xi.up (pc' := 197) (fun _ _ k => x_goto dX10_works_193 rfl k) ?_
            exact Xi.ret ⟨dX10_works_197, Or.inl rfl⟩ h
        · have h := h.2 c
          refine Xi.up (pc' := 164) (fun _ _ k => x_iload_n dX10_works_163 rfl rfl k) ?_
          refine Xi.up (pc' := 165) (fun _ _ k => x_i2l dX10_works_164 k) ?_
          refine Xi.up (pc' := 168) (fun _ _ k => x_ldc2 ll10_152 dX10_works_165 (show inL (-999) from ⟨by decide, by decide⟩) rfl k) ?_
          refine Xi.up (pc' := 171) (fun _ _ k => x_ldc2 ll10_154 dX10_works_168 (show inL 999 from ⟨by decide, by decide⟩) rfl k) ?_
          by_cases c : (-999) ≤ (-x19) ∧ (-x19) ≤ 999
          · have h := h.1 c
            refine Xi.up (pc' := 174) (st' := [zi 1, zr 2230]) (fun _ _ k => x_in1 (st := [zr 2230]) lm10_43 dX10_works_171 (zs8 rfl) c k) ?_
            refine Xi.br (tgt := 181) (pc' := 177) ((1 : Int) = 0) (fun _ _ kt kf => x_if_eq dX10_works_174 rfl kt kf) (fun c => absurd c (by decide)) (fun _ => ?_)
            refine Xi.up (pc' := 178) (fun _ _ k => x_iconst dX10_works_177 (show inR 1 from ⟨by decide, by decide⟩) k) ?_
            refine Xi.up (pc' := 182) (fun _ _ k => x_goto dX10_works_178 rfl k) ?_
            refine Xi.up (pc' := 185) (fun _ _ k => x_putIK hK20 lf10_148 rfl rfl (Or.inr (Or.inr rfl)) dX10_works_182 h0.1 k) ?_
            have hK24 := KW.sI hK20 2230 19 1
            refine Xi.up (pc' := 186) (fun _ _ k => x_aload_n dX10_works_185 rfl rfl k) ?_
            refine Xi.up (pc' := 189) (fun _ _ k => x_getIK hK24 lf10_148 rfl dX10_works_186 h0.1 k) ?_
            refine Xi.br (tgt := 196) (pc' := 192) ((mI (sI M18 2230 19 1) 2230 19) = 0) (fun _ _ kt kf => x_if_eq dX10_works_189 rfl kt kf) (fun c => ?_) (fun c => ?_)
            · have h := h.1 c
              refine Xi.up (pc' := 197) (fun _ _ k => x_iconst dX10_works_196 (show inR 0 from ⟨by decide, by decide⟩) k) ?_
              exact Xi.ret ⟨dX10_works_197, Or.inl rfl⟩ h
            · have h := h.2 c
              refine Xi.up (pc' := 193) (fun _ _ k => x_iload_n dX10_works_192 rfl rfl k) ?_
              refine Xi.up (pc' := 197) (fun _ _ k => x_goto dX10_works_193 rfl k) ?_
              exact Xi.ret ⟨dX10_works_197, Or.inl rfl⟩ h
          · have h := h.2 c
            refine Xi.up (pc' := 174) (st' := [zi 0, zr 2230]) (fun _ _ k => x_in0 (st := [zr 2230]) lm10_43 dX10_works_171 (zs8 rfl) c k) ?_
            refine Xi.br (tgt := 181) (pc' := 177) ((0 : Int) = 0) (fun _ _ kt kf => x_if_eq dX10_works_174 rfl kt kf) (fun _ => ?_) (fun c => absurd (by decide) c)
            refine Xi.up (pc' := 182) (fun _ _ k => x_iconst dX10_works_181 (show inR 0 from ⟨by decide, by decide⟩) k) ?_
            refine Xi.up (pc' := 185) (fun _ _ k => x_putIK hK20 lf10_148 rfl rfl (Or.inr (Or.inl rfl)) dX10_works_182 h0.1 k) ?_
            have hK25 := KW.sI hK20 2230 19 0
            refine Xi.up (pc' := 186) (fun _ _ k => x_aload_n dX10_works_185 rfl rfl k) ?_
            refine Xi.up (pc' := 189) (fun _ _ k => x_getIK hK25 lf10_148 rfl dX10_works_186 h0.1 k) ?_
            refine Xi.br (tgt := 196) (pc' := 192) ((mI (sI M18 2230 19 0) 2230 19) = 0) (fun _ _ kt kf => x_if_eq dX10_works_189 rfl kt kf) (fun c => ?_) (fun c => ?_)
            · have h := h.1 c
              refine Xi.up (pc' := 197) (fun _ _ k => x_iconst dX10_works_196 (show inR 0 from ⟨by decide, by decide⟩) k) ?_
              exact Xi.ret ⟨dX10_works_197, Or.inl rfl⟩ h
            · have h := h.2 c
              refine Xi.up (pc' := 193) (fun _ _ k => x_iload_n dX10_works_192 rfl rfl k) ?_
              refine Xi.up (pc' := 197) (fun _ _ k => x_goto dX10_works_193 rfl k) ?_
              exact Xi.ret ⟨dX10_works_197, Or.inl rfl⟩ h
      · skip
        refine Xi.up (pc' := 87) (fun _ _ k => x_lookup dX10_works_8 rfl (off := 79) (by simp [Op.lookupswitch.offset_cons, Op.lookupswitch.offset_nil, Ne.symm c0, c0, Ne.symm c1, c1, Ne.symm c2, c2]) rfl k) ?_
        have h := h.2.2.2 ⟨c0, c1, c2⟩
        refine Xi.up (pc' := 88) (fun _ _ k => x_aload_n dX10_works_87 rfl rfl k) ?_
        refine Xi.up (pc' := 89) (fun _ _ k => x_iload_n dX10_works_88 rfl rfl k) ?_
        refine Xi.up (pc' := 90) (fun _ _ k => x_aload_n dX10_works_89 rfl rfl k) ?_
        refine Xi.up (pc' := 93) (fun _ _ k => x_getRK hK lf10_17 rfl dX10_works_90 h0.1 h0.2.2.2.1 k) ?_
        refine Xi.up (pc' := 94) (fun _ _ k => x_iload_n dX10_works_93 rfl rfl k) ?_
        obtain ⟨g26, h⟩ := h
        obtain ⟨g27, h⟩ := h
        refine Xi.up (pc' := 95) (fun _ _ k => x_ialoadK hK dX10_works_94 h0.2.2.2.2.2.2.2.2.2.2.2.2.2.1 g26 g27 k) ?_
        obtain ⟨x29, M28, hc31, hK30, h⟩ := h
        refine Xi.up (pc' := 98) (st' := [zi x29]) (fun _ _ k => x_callVK (ci := 10) (as := [zi a1, zi (mI M 2233 a2.toNat)]) (st := []) hK k10_works lm10_145 dX10_works_95 rfl (by decide) (zs8 rfl) h0.1 ⟨_, _, rfl⟩ hc31 k) ?_
        refine Xi.up (pc' := 100) (L' := [some (zr 2230), some (zi a1), some (zi a2), some (zi 0), some (zi x29), none]) (fun _ _ k => x_istore dX10_works_98 (by decide) rfl k) ?_
        refine Xi.up (pc' := 101) (fun _ _ k => x_aload_n dX10_works_100 rfl rfl k) ?_
        refine Xi.up (pc' := 102) (fun _ _ k => x_iload_n dX10_works_101 rfl rfl k) ?_
        refine Xi.up (pc' := 103) (fun _ _ k => x_aload_n dX10_works_102 rfl rfl k) ?_
        refine Xi.up (pc' := 106) (fun _ _ k => x_getRK hK30 lf10_20 rfl dX10_works_103 h0.1 h0.2.2.2.2.1 k) ?_
        refine Xi.up (pc' := 107) (fun _ _ k => x_iload_n dX10_works_106 rfl rfl k) ?_
        obtain ⟨g32, h⟩ := h
        obtain ⟨g33, h⟩ := h
        refine Xi.up (pc' := 108) (fun _ _ k => x_ialoadK hK30 dX10_works_107 h0.2.2.2.2.2.2.2.2.2.2.2.2.2.2.1 g32 g33 k) ?_
        obtain ⟨x35, M34, hc37, hK36, h⟩ := h
        refine Xi.up (pc' := 111) (st' := [zi x35]) (fun _ _ k => x_callVK (ci := 10) (as := [zi a1, zi (mI M28 2234 a2.toNat)]) (st := []) hK30 k10_works lm10_145 dX10_works_108 rfl (by decide) (zs8 rfl) h0.1 ⟨_, _, rfl⟩ hc37 k) ?_
        refine Xi.up (pc' := 113) (L' := [some (zr 2230), some (zi a1), some (zi a2), some (zi 0), some (zi x29), some (zi x35)]) (fun _ _ k => x_istore dX10_works_111 (by decide) rfl k) ?_
        refine Xi.up (pc' := 114) (fun _ _ k => x_aload_n dX10_works_113 rfl rfl k) ?_
        refine Xi.up (pc' := 117) (fun _ _ k => x_getRK hK36 lf10_14 rfl dX10_works_114 h0.1 h0.2.2.1 k) ?_
        refine Xi.up (pc' := 118) (fun _ _ k => x_iload_n dX10_works_117 rfl rfl k) ?_
        obtain ⟨g38, h⟩ := h
        obtain ⟨g39, h⟩ := h
        refine Xi.up (pc' := 119) (fun _ _ k => x_ialoadK hK36 dX10_works_118 h0.2.2.2.2.2.2.2.2.2.2.2.2.1 g38 g39 k) ?_
        refine Xi.up (pc' := 120) (fun _ _ k => x_iconst dX10_works_119 (show inR 3 from ⟨by decide, by decide⟩) k) ?_
        refine Xi.br (tgt := 131) (pc' := 123) ((mI M34 2232 a2.toNat) ≠ 3) (fun _ _ kt kf => x_icmp_ne dX10_works_120 rfl kt kf) (fun c => ?_) (fun c => ?_)
        · have h := h.1 c
          refine Xi.up (pc' := 132) (fun _ _ k => x_aload_n dX10_works_131 rfl rfl k) ?_
          refine Xi.up (pc' := 135) (fun _ _ k => x_getRK hK36 lf10_14 rfl dX10_works_132 h0.1 h0.2.2.1 k) ?_
          refine Xi.up (pc' := 136) (fun _ _ k => x_iload_n dX10_works_135 rfl rfl k) ?_
          obtain ⟨g40, h⟩ := h
          obtain ⟨g41, h⟩ := h
          refine Xi.up (pc' := 137) (fun _ _ k => x_ialoadK hK36 dX10_works_136 h0.2.2.2.2.2.2.2.2.2.2.2.2.1 g40 g41 k) ?_
          refine Xi.up (pc' := 138) (fun _ _ k => x_iconst dX10_works_137 (show inR 4 from ⟨by decide, by decide⟩) k) ?_
          refine Xi.br (tgt := 149) (pc' := 141) ((mI M34 2232 a2.toNat) ≠ 4) (fun _ _ kt kf => x_icmp_ne dX10_works_138 rfl kt kf) (fun c => ?_) (fun c => ?_)
          · have h := h.1 c
            refine Xi.up (pc' := 151) (fun _ _ k => x_iload dX10_works_149 rfl k) ?_
            refine Xi.up (pc' := 153) (fun _ _ k => x_iload dX10_works_151 rfl k) ?_
            obtain ⟨g42, h⟩ := h
            refine Xi.up (pc' := 154) (fun _ _ k => x_imul dX10_works_153 g42 k) ?_
            refine Xi.up (pc' := 155) (L' := [some (zr 2230), some (zi a1), some (zi a2), some (zi (x29 * x35)), some (zi x29), some (zi x35)]) (fun _ _ k => x_istore_n dX10_works_154 rfl (by decide) rfl k) ?_
            refine Xi.up (pc' := 156) (fun _ _ k => x_aload_n dX10_works_155 rfl rfl k) ?_
            refine Xi.up (pc' := 157) (fun _ _ k => x_aload_n dX10_works_156 rfl rfl k) ?_
            refine Xi.up (pc' := 160) (fun _ _ k => x_getIK hK36 lf10_148 rfl dX10_works_157 h0.1 k) ?_
            refine Xi.br (tgt := 181) (pc' := 163) ((mI M34 2230 19) = 0) (fun _ _ kt kf => x_if_eq dX10_works_160 rfl kt kf) (fun c => ?_) (fun c => ?_)
            · have h := h.1 c
              refine Xi.up (pc' := 182) (fun _ _ k => x_iconst dX10_works_181 (show inR 0 from ⟨by decide, by decide⟩) k) ?_
              refine Xi.up (pc' := 185) (fun _ _ k => x_putIK hK36 lf10_148 rfl rfl (Or.inr (Or.inl rfl)) dX10_works_182 h0.1 k) ?_
              have hK43 := KW.sI hK36 2230 19 0
              refine Xi.up (pc' := 186) (fun _ _ k => x_aload_n dX10_works_185 rfl rfl k) ?_
              refine Xi.up (pc' := 189) (fun _ _ k => x_getIK hK43 lf10_148 rfl dX10_works_186 h0.1 k) ?_
              refine Xi.br (tgt := 196) (pc' := 192) ((mI (sI M34 2230 19 0) 2230 19) = 0) (fun _ _ kt kf => x_if_eq dX10_works_189 rfl kt kf) (fun c => ?_) (fun c => ?_)
              · have h := h.1 c
                refine Xi.up (pc' := 197) (fun _ _ k => x_iconst dX10_works_196 (show inR 0 from ⟨by decide, by decide⟩) k) ?_
                exact Xi.ret ⟨dX10_works_197, Or.inl rfl⟩ h
              · have h := h.2 c
                refine Xi.up (pc' := 193) (fun _ _ k => x_iload_n dX10_works_192 rfl rfl k) ?_
                refine Xi.up (pc' := 197) (fun _ _ k => x_goto dX10_works_193 rfl k) ?_
                exact Xi.ret ⟨dX10_works_197, Or.inl rfl⟩ h
            · have h := h.2 c
              refine Xi.up (pc' := 164) (fun _ _ k => x_iload_n dX10_works_163 rfl rfl k) ?_
              refine Xi.up (pc' := 165) (fun _ _ k => x_i2l dX10_works_164 k) ?_
              refine Xi.up (pc' := 168) (fun _ _ k => x_ldc2 ll10_152 dX10_works_165 (show inL (-999) from ⟨by decide, by decide⟩) rfl k) ?_
              refine Xi.up (pc' := 171) (fun _ _ k => x_ldc2 ll10_154 dX10_works_168 (show inL 999 from ⟨by decide, by decide⟩) rfl k) ?_
              by_cases c : (-999) ≤ (x29 * x35) ∧ (x29 * x35) ≤ 999
              · have h := h.1 c
                refine Xi.up (pc' := 174) (st' := [zi 1, zr 2230]) (fun _ _ k => x_in1 (st := [zr 2230]) lm10_43 dX10_works_171 (zs8 rfl) c k) ?_
                refine Xi.br (tgt := 181) (pc' := 177) ((1 : Int) = 0) (fun _ _ kt kf => x_if_eq dX10_works_174 rfl kt kf) (fun c => absurd c (by decide)) (fun _ => ?_)
                refine Xi.up (pc' := 178) (fun _ _ k => x_iconst dX10_works_177 (show inR 1 from ⟨by decide, by decide⟩) k) ?_
                refine Xi.up (pc' := 182) (fun _ _ k => x_goto dX10_works_178 rfl k) ?_
                refine Xi.up (pc' := 185) (fun _ _ k => x_putIK hK36 lf10_148 rfl rfl (Or.inr (Or.inr rfl)) dX10_works_182 h0.1 k) ?_
                have hK44 := KW.sI hK36 2230 19 1
                refine Xi.up (pc' := 186) (fun _ _ k => x_aload_n dX10_works_185 rfl rfl k) ?_
                refine Xi.up (pc' := 189) (fun _ _ k => x_getIK hK44 lf10_148 rfl dX10_works_186 h0.1 k) ?_
                refine Xi.br (tgt := 196) (pc' := 192) ((mI (sI M34 2230 19 1) 2230 19) = 0) (fun _ _ kt kf => x_if_eq dX10_works_189 rfl kt kf) (fun c => ?_) (fun c => ?_)
                · have h := h.1 c
                  refine Xi.up (pc' := 197) (fun _ _ k => x_iconst dX10_works_196 (show inR 0 from ⟨by decide, by decide⟩) k) ?_
                  exact Xi.ret ⟨dX10_works_197, Or.inl rfl⟩ h
                · have h := h.2 c
                  refine Xi.up (pc' := 193) (fun _ _ k => x_iload_n dX10_works_192 rfl rfl k) ?_
                  refine Xi.up (pc' := 197) (fun _ _ k => x_goto dX10_works_193 rfl k) ?_
                  exact Xi.ret ⟨dX10_works_197, Or.inl rfl⟩ h
              · have h := h.2 c
                refine Xi.up (pc' := 174) (st' := [zi 0, zr 2230]) (fun _ _ k => x_in0 (st := [zr 2230]) lm10_43 dX10_works_171 (zs8 rfl) c k) ?_
                refine Xi.br (tgt := 181) (pc' := 177) ((0 : Int) = 0) (fun _ _ kt kf => x_if_eq dX10_works_174 rfl kt kf) (fun _ => ?_) (fun c => absurd (by decide) c)
                refine Xi.up (pc' := 182) (fun _ _ k => x_iconst dX10_works_181 (show inR 0 from ⟨by decide, by decide⟩) k) ?_
                refine Xi.up (pc' := 185) (fun _ _ k => x_putIK hK36 lf10_148 rfl rfl (Or.inr (Or.inl rfl)) dX10_works_182 h0.1 k) ?_
                have hK45 := KW.sI hK36 2230 19 0
                refine Xi.up (pc' := 186) (fun _ _ k => x_aload_n dX10_works_185 rfl rfl k) ?_
                refine Xi.up (pc' := 189) (fun _ _ k => x_getIK hK45 lf10_148 rfl dX10_works_186 h0.1 k) ?_
                refine Xi.br (tgt := 196) (pc' := 192) ((mI (sI M34 2230 19 0) 2230 19) = 0) (fun _ _ kt kf => x_if_eq dX10_works_189 rfl kt kf) (fun c => ?_) (fun c => ?_)
                · have h := h.1 c
                  refine Xi.up (pc' := 197) (fun _ _ k => x_iconst dX10_works_196 (show inR 0 from ⟨by decide, by decide⟩) k) ?_
                  exact Xi.ret ⟨dX10_works_197, Or.inl rfl⟩ h
                · have h := h.2 c
                  refine Xi.up (pc' := 193) (fun _ _ k => x_iload_n dX10_works_192 rfl rfl k) ?_
                  refine Xi.up (pc' := 197) (fun _ _ k => x_goto dX10_works_193 rfl k) ?_
                  exact Xi.ret ⟨dX10_works_197, Or.inl rfl⟩ h
          · have h := h.2 c
            refine Xi.up (pc' := 143) (fun _ _ k => x_iload dX10_works_141 rfl k) ?_
            refine Xi.up (pc' := 145) (fun _ _ k => x_iload dX10_works_143 rfl k) ?_
            obtain ⟨g46, h⟩ := h
            refine Xi.up (pc' := 146) (fun _ _ k => x_isub dX10_works_145 g46 k) ?_
            refine Xi.up (pc' := 154) (fun _ _ k => x_goto dX10_works_146 rfl k) ?_
            refine Xi.up (pc' := 155) (L' := [some (zr 2230), some (zi a1), some (zi a2), some (zi (x29 - x35)), some (zi x29), some (zi x35)]) (fun _ _ k => x_istore_n dX10_works_154 rfl (by decide) rfl k) ?_
            refine Xi.up (pc' := 156) (fun _ _ k => x_aload_n dX10_works_155 rfl rfl k) ?_
            refine Xi.up (pc' := 157) (fun _ _ k => x_aload_n dX10_works_156 rfl rfl k) ?_
            refine Xi.up (pc' := 160) (fun _ _ k => x_getIK hK36 lf10_148 rfl dX10_works_157 h0.1 k) ?_
            refine Xi.br (tgt := 181) (pc' := 163) ((mI M34 2230 19) = 0) (fun _ _ kt kf => x_if_eq dX10_works_160 rfl kt kf) (fun c => ?_) (fun c => ?_)
            · have h := h.1 c
              refine Xi.up (pc' := 182) (fun _ _ k => x_iconst dX10_works_181 (show inR 0 from ⟨by decide, by decide⟩) k) ?_
              refine Xi.up (pc' := 185) (fun _ _ k => x_putIK hK36 lf10_148 rfl rfl (Or.inr (Or.inl rfl)) dX10_works_182 h0.1 k) ?_
              have hK47 := KW.sI hK36 2230 19 0
              refine Xi.up (pc' := 186) (fun _ _ k => x_aload_n dX10_works_185 rfl rfl k) ?_
              refine Xi.up (pc' := 189) (fun _ _ k => x_getIK hK47 lf10_148 rfl dX10_works_186 h0.1 k) ?_
              refine Xi.br (tgt := 196) (pc' := 192) ((mI (sI M34 2230 19 0) 2230 19) = 0) (fun _ _ kt kf => x_if_eq dX10_works_189 rfl kt kf) (fun c => ?_) (fun c => ?_)
              · have h := h.1 c
                refine Xi.up (pc' := 197) (fun _ _ k => x_iconst dX10_works_196 (show inR 0 from ⟨by decide, by decide⟩) k) ?_
                exact Xi.ret ⟨dX10_works_197, Or.inl rfl⟩ h
              · have h := h.2 c
                refine Xi.up (pc' := 193) (fun _ _ k => x_iload_n dX10_works_192 rfl rfl k) ?_
                refine Xi.up (pc' := 197) (fun _ _ k => x_goto dX10_works_193 rfl k) ?_
                exact Xi.ret ⟨dX10_works_197, Or.inl rfl⟩ h
            · have h := h.2 c
              refine Xi.up (pc' := 164) (fun _ _ k => x_iload_n dX10_works_163 rfl rfl k) ?_
              refine Xi.up (pc' := 165) (fun _ _ k => x_i2l dX10_works_164 k) ?_
              refine Xi.up (pc' := 168) (fun _ _ k => x_ldc2 ll10_152 dX10_works_165 (show inL (-999) from ⟨by decide, by decide⟩) rfl k) ?_
              refine Xi.up (pc' := 171) (fun _ _ k => x_ldc2 ll10_154 dX10_works_168 (show inL 999 from ⟨by decide, by decide⟩) rfl k) ?_
              by_cases c : (-999) ≤ (x29 - x35) ∧ (x29 - x35) ≤ 999
              · have h := h.1 c
                refine Xi.up (pc' := 174) (st' := [zi 1, zr 2230]) (fun _ _ k => x_in1 (st := [zr 2230]) lm10_43 dX10_works_171 (zs8 rfl) c k) ?_
                refine Xi.br (tgt := 181) (pc' := 177) ((1 : Int) = 0) (fun _ _ kt kf => x_if_eq dX10_works_174 rfl kt kf) (fun c => absurd c (by decide)) (fun _ => ?_)
                refine Xi.up (pc' := 178) (fun _ _ k => x_iconst dX10_works_177 (show inR 1 from ⟨by decide, by decide⟩) k) ?_
                refine Xi.up (pc' := 182) (fun _ _ k => x_goto dX10_works_178 rfl k) ?_
                refine Xi.up (pc' := 185) (fun _ _ k => x_putIK hK36 lf10_148 rfl rfl (Or.inr (Or.inr rfl)) dX10_works_182 h0.1 k) ?_
                have hK48 := KW.sI hK36 2230 19 1
                refine Xi.up (pc' := 186) (fun _ _ k => x_aload_n dX10_works_185 rfl rfl k) ?_
                refine Xi.up (pc' := 189) (fun _ _ k => x_getIK hK48 lf10_148 rfl dX10_works_186 h0.1 k) ?_
                refine Xi.br (tgt := 196) (pc' := 192) ((mI (sI M34 2230 19 1) 2230 19) = 0) (fun _ _ kt kf => x_if_eq dX10_works_189 rfl kt kf) (fun c => ?_) (fun c => ?_)
                · have h := h.1 c
                  refine Xi.up (pc' := 197) (fun _ _ k => x_iconst dX10_works_196 (show inR 0 from ⟨by decide, by decide⟩) k) ?_
                  exact Xi.ret ⟨dX10_works_197, Or.inl rfl⟩ h
                · have h := h.2 c
                  refine Xi.up (pc' := 193) (fun _ _ k => x_iload_n dX10_works_192 rfl rfl k) ?_
                  refine Xi.up (pc' := 197) (fun _ _ k => x_goto dX10_works_193 rfl k) ?_
                  exact Xi.ret ⟨dX10_works_197, Or.inl rfl⟩ h
              · have h := h.2 c
                refine Xi.up (pc' := 174) (st' := [zi 0, zr 2230]) (fun _ _ k => x_in0 (st := [zr 2230]) lm10_43 dX10_works_171 (zs8 rfl) c k) ?_
                refine Xi.br (tgt := 181) (pc' := 177) ((0 : Int) = 0) (fun _ _ kt kf => x_if_eq dX10_works_174 rfl kt kf) (fun _ => ?_) (fun c => absurd (by decide) c)
                refine Xi.up (pc' := 182) (fun _ _ k => x_iconst dX10_works_181 (show inR 0 from ⟨by decide, by decide⟩) k) ?_
                refine Xi.up (pc' := 185) (fun _ _ k => x_putIK hK36 lf10_148 rfl rfl (Or.inr (Or.inl rfl)) dX10_works_182 h0.1 k) ?_
                have hK49 := KW.sI hK36 2230 19 0
                refine Xi.up (pc' := 186) (fun _ _ k => x_aload_n dX10_works_185 rfl rfl k) ?_
                refine Xi.up (pc' := 189) (fun _ _ k => x_getIK hK49 lf10_148 rfl dX10_works_186 h0.1 k) ?_
                refine Xi.br (tgt := 196) (pc' := 192) ((mI (sI M34 2230 19 0) 2230 19) = 0) (fun _ _ kt kf => x_if_eq dX10_works_189 rfl kt kf) (fun c => ?_) (fun c => ?_)
                · have h := h.1 c
                  refine Xi.up (pc' := 197) (fun _ _ k => x_iconst dX10_works_196 (show inR 0 from ⟨by decide, by decide⟩) k) ?_
                  exact Xi.ret ⟨dX10_works_197, Or.inl rfl⟩ h
                · have h := h.2 c
                  refine Xi.up (pc' := 193) (fun _ _ k => x_iload_n dX10_works_192 rfl rfl k) ?_
                  refine Xi.up (pc' := 197) (fun _ _ k => x_goto dX10_works_193 rfl k) ?_
                  exact Xi.ret ⟨dX10_works_197, Or.inl rfl⟩ h
        · have h := h.2 c
          refine Xi.up (pc' := 125) (fun _ _ k => x_iload dX10_works_123 rfl k) ?_
          refine Xi.up (pc' := 127) (fun _ _ k => x_iload dX10_works_125 rfl k) ?_
          obtain ⟨g50, h⟩ := h
          refine Xi.up (pc' := 128) (fun _ _ k => x_iadd dX10_works_127 g50 k) ?_
          refine Xi.up (pc' := 154) (fun _ _ k => x_goto dX10_works_128 rfl k) ?_
          refine Xi.up (pc' := 155) (L' := [some (zr 2230), some (zi a1), some (zi a2), some (zi (x29 + x35)), some (zi x29), some (zi x35)]) (fun _ _ k => x_istore_n dX10_works_154 rfl (by decide) rfl k) ?_
          refine Xi.up (pc' := 156) (fun _ _ k => x_aload_n dX10_works_155 rfl rfl k) ?_
          refine Xi.up (pc' := 157) (fun _ _ k => x_aload_n dX10_works_156 rfl rfl k) ?_
          refine Xi.up (pc' := 160) (fun _ _ k => x_getIK hK36 lf10_148 rfl dX10_works_157 h0.1 k) ?_
          refine Xi.br (tgt := 181) (pc' := 163) ((mI M34 2230 19) = 0) (fun _ _ kt kf => x_if_eq dX10_works_160 rfl kt kf) (fun c => ?_) (fun c => ?_)
          · have h := h.1 c
            refine Xi.up (pc' := 182) (fun _ _ k => x_iconst dX10_works_181 (show inR 0 from ⟨by decide, by decide⟩) k) ?_
            refine Xi.up (pc' := 185) (fun _ _ k => x_putIK hK36 lf10_148 rfl rfl (Or.inr (Or.inl rfl)) dX10_works_182 h0.1 k) ?_
            have hK51 := KW.sI hK36 2230 19 0
            refine Xi.up (pc' := 186) (fun _ _ k => x_aload_n dX10_works_185 rfl rfl k) ?_
            refine Xi.up (pc' := 189) (fun _ _ k => x_getIK hK51 lf10_148 rfl dX10_works_186 h0.1 k) ?_
            refine Xi.br (tgt := 196) (pc' := 192) ((mI (sI M34 2230 19 0) 2230 19) = 0) (fun _ _ kt kf => x_if_eq dX10_works_189 rfl kt kf) (fun c => ?_) (fun c => ?_)
            · have h := h.1 c
              refine Xi.up (pc' := 197) (fun _ _ k => x_iconst dX10_works_196 (show inR 0 from ⟨by decide, by decide⟩) k) ?_
              exact Xi.ret ⟨dX10_works_197, Or.inl rfl⟩ h
            · have h := h.2 c
              refine Xi.up (pc' := 193) (fun _ _ k => x_iload_n dX10_works_192 rfl rfl k) ?_
              refine Xi.up (pc' := 197) (fun _ _ k => x_goto dX10_works_193 rfl k) ?_
              exact Xi.ret ⟨dX10_works_197, Or.inl rfl⟩ h
          · have h := h.2 c
            refine Xi.up (pc' := 164) (fun _ _ k => x_iload_n dX10_works_163 rfl rfl k) ?_
            refine Xi.up (pc' := 165) (fun _ _ k => x_i2l dX10_works_164 k) ?_
            refine Xi.up (pc' := 168) (fun _ _ k => x_ldc2 ll10_152 dX10_works_165 (show inL (-999) from ⟨by decide, by decide⟩) rfl k) ?_
            refine Xi.up (pc' := 171) (fun _ _ k => x_ldc2 ll10_154 dX10_works_168 (show inL 999 from ⟨by decide, by decide⟩) rfl k) ?_
            by_cases c : (-999) ≤ (x29 + x35) ∧ (x29 + x35) ≤ 999
            · have h := h.1 c
              refine Xi.up (pc' := 174) (st' := [zi 1, zr 2230]) (fun _ _ k => x_in1 (st := [zr 2230]) lm10_43 dX10_works_171 (zs8 rfl) c k) ?_
              refine Xi.br (tgt := 181) (pc' := 177) ((1 : Int) = 0) (fun _ _ kt kf => x_if_eq dX10_works_174 rfl kt kf) (fun c => absurd c (by decide)) (fun _ => ?_)
              refine Xi.up (pc' := 178) (fun _ _ k => x_iconst dX10_works_177 (show inR 1 from ⟨by decide, by decide⟩) k) ?_
              refine Xi.up (pc' := 182) (fun _ _ k => x_goto dX10_works_178 rfl k) ?_
              refine Xi.up (pc' := 185) (fun _ _ k => x_putIK hK36 lf10_148 rfl rfl (Or.inr (Or.inr rfl)) dX10_works_182 h0.1 k) ?_
              have hK52 := KW.sI hK36 2230 19 1
              refine Xi.up (pc' := 186) (fun _ _ k => x_aload_n dX10_works_185 rfl rfl k) ?_
              refine Xi.up (pc' := 189) (fun _ _ k => x_getIK hK52 lf10_148 rfl dX10_works_186 h0.1 k) ?_
              refine Xi.br (tgt := 196) (pc' := 192) ((mI (sI M34 2230 19 1) 2230 19) = 0) (fun _ _ kt kf => x_if_eq dX10_works_189 rfl kt kf) (fun c => ?_) (fun c => ?_)
              · have h := h.1 c
                refine Xi.up (pc' := 197) (fun _ _ k => x_iconst dX10_works_196 (show inR 0 from ⟨by decide, by decide⟩) k) ?_
                exact Xi.ret ⟨dX10_works_197, Or.inl rfl⟩ h
              · have h := h.2 c
                refine Xi.up (pc' := 193) (fun _ _ k => x_iload_n dX10_works_192 rfl rfl k) ?_
                refine Xi.up (pc' := 197) (fun _ _ k => x_goto dX10_works_193 rfl k) ?_
                exact Xi.ret ⟨dX10_works_197, Or.inl rfl⟩ h
            · have h := h.2 c
              refine Xi.up (pc' := 174) (st' := [zi 0, zr 2230]) (fun _ _ k => x_in0 (st := [zr 2230]) lm10_43 dX10_works_171 (zs8 rfl) c k) ?_
              refine Xi.br (tgt := 181) (pc' := 177) ((0 : Int) = 0) (fun _ _ kt kf => x_if_eq dX10_works_174 rfl kt kf) (fun _ => ?_) (fun c => absurd (by decide) c)
              refine Xi.up (pc' := 182) (fun _ _ k => x_iconst dX10_works_181 (show inR 0 from ⟨by decide, by decide⟩) k) ?_
              refine Xi.up (pc' := 185) (fun _ _ k => x_putIK hK36 lf10_148 rfl rfl (Or.inr (Or.inl rfl)) dX10_works_182 h0.1 k) ?_
              have hK53 := KW.sI hK36 2230 19 0
              refine Xi.up (pc' := 186) (fun _ _ k => x_aload_n dX10_works_185 rfl rfl k) ?_
              refine Xi.up (pc' := 189) (fun _ _ k => x_getIK hK53 lf10_148 rfl dX10_works_186 h0.1 k) ?_
              refine Xi.br (tgt := 196) (pc' := 192) ((mI (sI M34 2230 19 0) 2230 19) = 0) (fun _ _ kt kf => x_if_eq dX10_works_189 rfl kt kf) (fun c => ?_) (fun c => ?_)
              · have h := h.1 c
                refine Xi.up (pc' := 197) (fun _ _ k => x_iconst dX10_works_196 (show inR 0 from ⟨by decide, by decide⟩) k) ?_
                exact Xi.ret ⟨dX10_works_197, Or.inl rfl⟩ h
              · have h := h.2 c
                refine Xi.up (pc' := 193) (fun _ _ k => x_iload_n dX10_works_192 rfl rfl k) ?_
                refine Xi.up (pc' := 197) (fun _ _ k => x_goto dX10_works_193 rfl k) ?_
                exact Xi.ret ⟨dX10_works_197, Or.inl rfl⟩ h
set_option maxHeartbeats 4000000 in
set_option maxRecDepth 20000 in
theorem B10_costOf {d : Nat} {K M : ZMem} {Q : Int → ZMem → Prop} (a1 : Int) (hK : KW K M) (h0 : ModelAt K 2230) (h : (inR ((mI M 2230 16) + 3)) ∧ (0 ≤ ((mI M 2230 16) + 3)) ∧ (((mI M 2230 16) + 3) < 19245) ∧ (((mI M 2239 ((mI M 2230 16) + 3).toNat) ≠ (-1) → ((inR ((mI (sI M 2230 19 1) 2230 16) + 3)) ∧ (0 ≤ ((mI (sI M 2230 19 1) 2230 16) + 3)) ∧ (((mI (sI M 2230 19 1) 2230 16) + 3) < 19245) ∧ Ci d q10_works [zr 2230, zi a1, zi (mI (sI M 2230 19 1) 2239 ((mI (sI M 2230 19 1) 2230 16) + 3).toNat)] (sI M 2230 19 1) (fun x9 M8 => KW K M8 ∧ (((mI M8 2230 19) = 0 → (Q 999999 M8)) ∧ (¬ ((mI M8 2230 19) = 0) → (Q x9 M8)))))) ∧ (¬ ((mI M 2239 ((mI M 2230 16) + 3).toNat) ≠ (-1)) → (Q 0 M)))) : Ci (d + 1) q10_costOf [zr 2230, zi a1] M Q := by
  refine Ci.of rfl rfl (Nat.le_of_ble_eq_true rfl) (fun w hw x e => by subst e; simp at hw) (L := [some (zr 2230), some (zi a1), none]) rfl ?_
  refine Xi.up (pc' := 1) (fun _ _ k => x_aload_n dX10_costOf_0 rfl rfl k) ?_
  refine Xi.up (pc' := 4) (fun _ _ k => x_getRK hK lf10_35 rfl dX10_costOf_1 h0.1 h0.2.2.2.2.2.2.2.2.2.1 k) ?_
  refine Xi.up (pc' := 5) (fun _ _ k => x_aload_n dX10_costOf_4 rfl rfl k) ?_
  refine Xi.up (pc' := 8) (fun _ _ k => x_getIK hK lf10_156 rfl dX10_costOf_5 h0.1 k) ?_
  refine Xi.up (pc' := 9) (fun _ _ k => x_iconst dX10_costOf_8 (show inR 3 from ⟨by decide, by decide⟩) k) ?_
  obtain ⟨g1, h⟩ := h
  refine Xi.up (pc' := 10) (fun _ _ k => x_iadd dX10_costOf_9 g1 k) ?_
  obtain ⟨g2, h⟩ := h
  obtain ⟨g3, h⟩ := h
  refine Xi.up (pc' := 11) (fun _ _ k => x_ialoadK hK dX10_costOf_10 h0.2.2.2.2.2.2.2.2.2.2.2.2.2.2.2.2.2.2.2.1 g2 g3 k) ?_
  refine Xi.up (pc' := 12) (fun _ _ k => x_iconst dX10_costOf_11 (show inR (-1) from ⟨by decide, by decide⟩) k) ?_
  refine Xi.br (tgt := 17) (pc' := 15) ((mI M 2239 ((mI M 2230 16) + 3).toNat) ≠ (-1)) (fun _ _ kt kf => x_icmp_ne dX10_costOf_12 rfl kt kf) (fun c => ?_) (fun c => ?_)
  · have h := h.1 c
    refine Xi.up (pc' := 18) (fun _ _ k => x_aload_n dX10_costOf_17 rfl rfl k) ?_
    refine Xi.up (pc' := 19) (fun _ _ k => x_iconst dX10_costOf_18 (show inR 1 from ⟨by decide, by decide⟩) k) ?_
    refine Xi.up (pc' := 22) (fun _ _ k => x_putIK hK lf10_148 rfl rfl (Or.inr (Or.inr rfl)) dX10_costOf_19 h0.1 k) ?_
    have hK4 := KW.sI hK 2230 19 1
    refine Xi.up (pc' := 23) (fun _ _ k => x_aload_n dX10_costOf_22 rfl rfl k) ?_
    refine Xi.up (pc' := 24) (fun _ _ k => x_iload_n dX10_costOf_23 rfl rfl k) ?_
    refine Xi.up (pc' := 25) (fun _ _ k => x_aload_n dX10_costOf_24 rfl rfl k) ?_
    refine Xi.up (pc' := 28) (fun _ _ k => x_getRK hK4 lf10_35 rfl dX10_costOf_25 h0.1 h0.2.2.2.2.2.2.2.2.2.1 k) ?_
    refine Xi.up (pc' := 29) (fun _ _ k => x_aload_n dX10_costOf_28 rfl rfl k) ?_
    refine Xi.up (pc' := 32) (fun _ _ k => x_getIK hK4 lf10_156 rfl dX10_costOf_29 h0.1 k) ?_
    refine Xi.up (pc' := 33) (fun _ _ k => x_iconst dX10_costOf_32 (show inR 3 from ⟨by decide, by decide⟩) k) ?_
    obtain ⟨g5, h⟩ := h
    refine Xi.up (pc' := 34) (fun _ _ k => x_iadd dX10_costOf_33 g5 k) ?_
    obtain ⟨g6, h⟩ := h
    obtain ⟨g7, h⟩ := h
    refine Xi.up (pc' := 35) (fun _ _ k => x_ialoadK hK4 dX10_costOf_34 h0.2.2.2.2.2.2.2.2.2.2.2.2.2.2.2.2.2.2.2.1 g6 g7 k) ?_
    obtain ⟨x9, M8, hc11, hK10, h⟩ := h
    refine Xi.up (pc' := 38) (st' := [zi x9]) (fun _ _ k => x_callVK (ci := 10) (as := [zi a1, zi (mI (sI M 2230 19 1) 2239 ((mI (sI M 2230 19 1) 2230 16) + 3).toNat)]) (st := []) hK4 k10_works lm10_145 dX10_costOf_35 rfl (by decide) (zs8 rfl) h0.1 ⟨_, _, rfl⟩ hc11 k) ?_
    refine Xi.up (pc' := 39) (L' := [some (zr 2230), some (zi a1), some (zi x9)]) (fun _ _ k => x_istore_n dX10_costOf_38 rfl (by decide) rfl k) ?_
    refine Xi.up (pc' := 40) (fun _ _ k => x_aload_n dX10_costOf_39 rfl rfl k) ?_
    refine Xi.up (pc' := 43) (fun _ _ k => x_getIK hK10 lf10_148 rfl dX10_costOf_40 h0.1 k) ?_
    refine Xi.br (tgt := 50) (pc' := 46) ((mI M8 2230 19) = 0) (fun _ _ kt kf => x_if_eq dX10_costOf_43 rfl kt kf) (fun c => ?_) (fun c => ?_)
    · have h := h.1 c
      refine Xi.up (pc' := 52) (fun _ _ k => x_ldc li10_159 dX10_costOf_50 (show inR 999999 from ⟨by decide, by decide⟩) rfl k) ?_
      exact Xi.ret ⟨dX10_costOf_52, Or.inl rfl⟩ h
    · have h := h.2 c
      refine Xi.up (pc' := 47) (fun _ _ k => x_iload_n dX10_costOf_46 rfl rfl k) ?_
      refine Xi.up (pc' := 52) (fun _ _ k => x_goto dX10_costOf_47 rfl k) ?_
      exact Xi.ret ⟨dX10_costOf_52, Or.inl rfl⟩ h
  · have h := h.2 c
    refine Xi.up (pc' := 16) (fun _ _ k => x_iconst dX10_costOf_15 (show inR 0 from ⟨by decide, by decide⟩) k) ?_
    exact Xi.ret ⟨dX10_costOf_16, Or.inl rfl⟩ h
