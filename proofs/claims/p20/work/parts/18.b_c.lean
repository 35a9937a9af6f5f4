set_option maxHeartbeats 4000000 in
set_option maxRecDepth 20000 in
theorem B6_start {d : Nat} {K M : ZMem} {Q : ZMem → Prop} (o : Nat) (a1 : Nat) (a2 : Int) (hK : KW K M) (h0 : SearchAt K o) (h1 : ProgramAt K a1) (h : Cv d q4_become [zr (o + 1), zr a1] M (fun M1 => KW K M1 ∧ Xv (d + 1) q6_start 36 [some (zr o), none, none, some (zi 0)] [] (sI (sI (sI (sI M1 o 8 a2) o 7 1) (o + 18) 1 0) (o + 20) 1 0) Q)) : Cv (d + 1) q6_start [zr o, zr a1, zi a2] M Q := by
  refine Cv.of rfl rfl (Nat.le_of_ble_eq_true rfl) (fun w hw x e => by subst e; simp at hw) (L := [some (zr o), some (zr a1), some (zi a2), none]) rfl ?_
  refine Xv.up (pc' := 1) (fun _ _ k => x_aload_n dX6_start_0 rfl rfl k) ?_
  refine Xv.up (pc' := 4) (fun _ _ k => x_getRK hK lf6_12 rfl dX6_start_1 h0.1 h0.2.1 k) ?_
  refine Xv.up (pc' := 5) (fun _ _ k => x_aload_n dX6_start_4 rfl rfl k) ?_
  obtain ⟨M1, hc3, hK2, h⟩ := h
  refine Xv.up (pc' := 8) (st' := []) (fun _ _ k => x_callVK (ci := 4) (as := [zr a1]) (st := []) hK k4_become lm6_49 dX6_start_5 rfl (by decide) (zs8 rfl) h0.2.2.2.2.2.2.2.2.2.2.2.1.1 ⟨_, _, rfl⟩ hc3 k) ?_
  refine Xv.up (pc' := 9) (fun _ _ k => x_aload_n dX6_start_8 rfl rfl k) ?_
  refine Xv.up (pc' := 10) (fun _ _ k => x_iload_n dX6_start_9 rfl rfl k) ?_
  refine Xv.up (pc' := 13) (fun _ _ k => x_putIK hK2 lf6_53 rfl rfl (Or.inl rfl) dX6_start_10 h0.1 k) ?_
  have hK4 := KW.sI hK2 o 8 a2
  refine Xv.up (pc' := 14) (fun _ _ k => x_aload_n dX6_start_13 rfl rfl k) ?_
  refine Xv.up (pc' := 15) (fun _ _ k => x_iconst dX6_start_14 (show inR 1 from ⟨by decide, by decide⟩) k) ?_
  refine Xv.up (pc' := 18) (fun _ _ k => x_putIK hK4 lf6_57 rfl rfl (Or.inl rfl) dX6_start_15 h0.1 k) ?_
  have hK5 := KW.sI hK4 o 7 1
  refine Xv.up (pc' := 19) (fun _ _ k => x_aload_n dX6_start_18 rfl rfl k) ?_
  refine Xv.up (pc' := 22) (fun _ _ k => x_getRK hK5 lf6_21 rfl dX6_start_19 h0.1 h0.2.2.1 k) ?_
  refine Xv.up (pc' := 23) (fun _ _ k => x_iconst dX6_start_22 (show inR 0 from ⟨by decide, by decide⟩) k) ?_
  refine Xv.up (pc' := 26) (fun _ _ k => x_putIK hK5 lf6_60 rfl rfl (Or.inl rfl) dX6_start_23 h0.2.2.2.2.2.2.2.2.2.2.2.2.1.1 k) ?_
  have hK6 := KW.sI hK5 (o + 18) 1 0
  refine Xv.up (pc' := 27) (fun _ _ k => x_aload_n dX6_start_26 rfl rfl k) ?_
  refine Xv.up (pc' := 30) (fun _ _ k => x_getRK hK6 lf6_28 rfl dX6_start_27 h0.1 h0.2.2.2.1 k) ?_
  refine Xv.up (pc' := 31) (fun _ _ k => x_iconst dX6_start_30 (show inR 0 from ⟨by decide, by decide⟩) k) ?_
  refine Xv.up (pc' := 34) (fun _ _ k => x_putIK hK6 lf6_63 rfl rfl (Or.inl rfl) dX6_start_31 h0.2.2.2.2.2.2.2.2.2.2.2.2.2.1.1 k) ?_
  have hK7 := KW.sI hK6 (o + 20) 1 0
  refine Xv.up (pc' := 35) (fun _ _ k => x_iconst dX6_start_34 (show inR 0 from ⟨by decide, by decide⟩) k) ?_
  refine Xv.up (pc' := 36) (L' := [some (zr o), some (zr a1), some (zi a2), some (zi 0)]) (fun _ _ k => x_istore_n dX6_start_35 rfl (by decide) rfl k) ?_
  exact Xv.up (fun _ _ k => x_less (L' := [some (zr o), none, none, some (zi 0)]) (⟨rfl, ⟨rfl, trivial⟩⟩) k) h
set_option maxHeartbeats 4000000 in
set_option maxRecDepth 20000 in
theorem B6_start_36 {d : Nat} {K M : ZMem} {Q : ZMem → Prop} (o : Nat) (l3 : Int) (hK : KW K M) (h0 : SearchAt K o) (h : ((9 ≤ l3 → (Cv d q6_startWay [zr o] (sI M o 9 0) (fun M2 => KW K M2 ∧ Q M2))) ∧ (¬ (9 ≤ l3) → ((0 ≤ l3) ∧ (l3 < 9) ∧ (inR (l3 + 1)) ∧ Xv (d + 1) q6_start 36 [some (zr o), none, none, some (zi (l3 + 1))] [] (sI M (o + 426) l3.toNat 0) Q)))) : Xv (d + 1) q6_start 36 [some (zr o), none, none, some (zi l3)] [] M Q := by
  refine Xv.up (pc' := 37) (fun _ _ k => x_iload_n dX6_start_36 rfl rfl k) ?_
  refine Xv.up (pc' := 38) (fun _ _ k => x_aload_n dX6_start_37 rfl rfl k) ?_
  refine Xv.up (pc' := 41) (fun _ _ k => x_getRK hK lf6_46 rfl dX6_start_38 h0.1 h0.2.2.2.2.2.2.2.1 k) ?_
  refine Xv.up (pc' := 42) (fun _ _ k => x_alenK hK dX6_start_41 h0.2.2.2.2.2.2.2.2.2.2.1 (by decide) (by decide) k) ?_
  refine Xv.br (tgt := 58) (pc' := 45) (9 ≤ l3) (fun _ _ kt kf => x_icmp_ge dX6_start_42 rfl kt kf) (fun c => ?_) (fun c => ?_)
  · have h := h.1 c
    refine Xv.up (pc' := 59) (fun _ _ k => x_aload_n dX6_start_58 rfl rfl k) ?_
    refine Xv.up (pc' := 60) (fun _ _ k => x_iconst dX6_start_59 (show inR 0 from ⟨by decide, by decide⟩) k) ?_
    refine Xv.up (pc' := 63) (fun _ _ k => x_putIK hK lf6_64 rfl rfl (Or.inl rfl) dX6_start_60 h0.1 k) ?_
    have hK1 := KW.sI hK o 9 0
    refine Xv.up (pc' := 64) (fun _ _ k => x_aload_n dX6_start_63 rfl rfl k) ?_
    obtain ⟨M2, hc4, hK3, h⟩ := h
    refine Xv.up (pc' := 67) (st' := []) (fun _ _ k => x_callVK (ci := 6) (as := []) (st := []) hK1 k6_startWay lm6_67 dX6_start_64 rfl (by decide) (zs8 rfl) h0.1 ⟨_, _, rfl⟩ hc4 k) ?_
    exact Xv.ret ⟨dX6_start_67, rfl⟩ h
  · have h := h.2 c
    refine Xv.up (pc' := 46) (fun _ _ k => x_aload_n dX6_start_45 rfl rfl k) ?_
    refine Xv.up (pc' := 49) (fun _ _ k => x_getRK hK lf6_46 rfl dX6_start_46 h0.1 h0.2.2.2.2.2.2.2.1 k) ?_
    refine Xv.up (pc' := 50) (fun _ _ k => x_iload_n dX6_start_49 rfl rfl k) ?_
    refine Xv.up (pc' := 51) (fun _ _ k => x_iconst dX6_start_50 (show inR 0 from ⟨by decide, by decide⟩) k) ?_
    obtain ⟨g5, h⟩ := h
    obtain ⟨g6, h⟩ := h
    refine Xv.up (pc' := 52) (fun _ _ k => x_iastoreK hK dX6_start_51 h0.2.2.2.2.2.2.2.2.2.2.1 g5 g6 k) ?_
    have hK7 := KW.sI hK (o + 426) l3.toNat 0
    obtain ⟨g8, h⟩ := h
    refine Xv.up (pc' := 55) (L' := [some (zr o), none, none, some (zi (l3 + 1))]) (fun _ _ k => x_iinc dX6_start_52 rfl g8 (by decide) rfl k) ?_
    refine Xv.up (pc' := 36) (fun _ _ k => x_goto dX6_start_55 rfl k) ?_
    exact h
set_option maxHeartbeats 4000000 in
set_option maxRecDepth 20000 in
theorem B6_startWay {d : Nat} {K M : ZMem} {Q : ZMem → Prop} (o : Nat) (hK : KW K M) (h0 : SearchAt K o) (h : Cq d q6_currentWay [zr o] (sI (sI (sI (sI M o 10 0) o 11 0) (o + 208) 1 0) o 12 1) (fun x6 M5 => KW K M5 ∧ (WayAt K x6) ∧ Cv d q8_start [zr x6] M5 (fun M10 => KW K M10 ∧ Q M10))) : Cv (d + 1) q6_startWay [zr o] M Q := by
  refine Cv.of rfl rfl (Nat.le_of_ble_eq_true rfl) (fun w hw x e => by subst e; simp at hw) (L := [some (zr o)]) rfl ?_
  refine Xv.up (pc' := 1) (fun _ _ k => x_aload_n dX6_startWay_0 rfl rfl k) ?_
  refine Xv.up (pc' := 2) (fun _ _ k => x_iconst dX6_startWay_1 (show inR 0 from ⟨by decide, by decide⟩) k) ?_
  refine Xv.up (pc' := 5) (fun _ _ k => x_putIK hK lf6_70 rfl rfl (Or.inr (Or.inl rfl)) dX6_startWay_2 h0.1 k) ?_
  have hK1 := KW.sI hK o 10 0
  refine Xv.up (pc' := 6) (fun _ _ k => x_aload_n dX6_startWay_5 rfl rfl k) ?_
  refine Xv.up (pc' := 7) (fun _ _ k => x_iconst dX6_startWay_6 (show inR 0 from ⟨by decide, by decide⟩) k) ?_
  refine Xv.up (pc' := 10) (fun _ _ k => x_putIK hK1 lf6_74 rfl rfl (Or.inl rfl) dX6_startWay_7 h0.1 k) ?_
  have hK2 := KW.sI hK1 o 11 0
  refine Xv.up (pc' := 11) (fun _ _ k => x_aload_n dX6_startWay_10 rfl rfl k) ?_
  refine Xv.up (pc' := 14) (fun _ _ k => x_getRK hK2 lf6_32 rfl dX6_startWay_11 h0.1 h0.2.2.2.2.1 k) ?_
  refine Xv.up (pc' := 15) (fun _ _ k => x_iconst dX6_startWay_14 (show inR 0 from ⟨by decide, by decide⟩) k) ?_
  refine Xv.up (pc' := 18) (fun _ _ k => x_putIK hK2 lf6_63 rfl rfl (Or.inl rfl) dX6_startWay_15 h0.2.2.2.2.2.2.2.2.2.2.2.2.2.2.1.1 k) ?_
  have hK3 := KW.sI hK2 (o + 208) 1 0
  refine Xv.up (pc' := 19) (fun _ _ k => x_aload_n dX6_startWay_18 rfl rfl k) ?_
  refine Xv.up (pc' := 20) (fun _ _ k => x_iconst dX6_startWay_19 (show inR 1 from ⟨by decide, by decide⟩) k) ?_
  refine Xv.up (pc' := 23) (fun _ _ k => x_putIK hK3 lf6_77 rfl rfl (Or.inr (Or.inr rfl)) dX6_startWay_20 h0.1 k) ?_
  have hK4 := KW.sI hK3 o 12 1
  refine Xv.up (pc' := 24) (fun _ _ k => x_aload_n dX6_startWay_23 rfl rfl k) ?_
  obtain ⟨x6, M5, hc8, hK7, h⟩ := h
  refine Xv.up (pc' := 27) (st' := [zr x6]) (fun _ _ k => x_callVK (ci := 6) (as := []) (st := []) hK4 k6_currentWay lm6_80 dX6_startWay_24 rfl (by decide) (zs8 rfl) h0.1 ⟨_, _, rfl⟩ hc8 k) ?_
  obtain ⟨g9, h⟩ := h
  obtain ⟨M10, hc12, hK11, h⟩ := h
  refine Xv.up (pc' := 30) (st' := []) (fun _ _ k => x_callVK (ci := 8) (as := []) (st := []) hK7 k8_start lm6_84 dX6_startWay_27 rfl (by decide) (zs8 rfl) g9.1 ⟨_, _, rfl⟩ hc12 k) ?_
  exact Xv.ret ⟨dX6_startWay_30, rfl⟩ h
set_option maxHeartbeats 4000000 in
set_option maxRecDepth 20000 in
theorem B6_tell {d : Nat} {K M : ZMem} {Q : Int → ZMem → Prop} (o : Nat) (a1 : Int) (hK : KW K M) (h0 : SearchAt K o) (h : ((a1 = 1 → (Q (mI M (o + 18) 1) M)) ∧ (a1 = 3 → (Q (mI M (o + 20) 1) M)) ∧ (a1 = 9 → (((mI M o 8) ≠ 5 → (Q (-2002) M)) ∧ (¬ ((mI M o 8) ≠ 5) → (Q (mI M o 9) M)))) ∧ (a1 ≠ 1 ∧ a1 ≠ 3 ∧ a1 ≠ 9 → ((a1 < 0 → (Q 0 M)) ∧ (¬ (a1 < 0) → ((9 ≤ a1 → (Q 0 M)) ∧ (¬ (9 ≤ a1) → ((0 ≤ a1) ∧ (a1 < 9) ∧ Q (mI M (o + 426) a1.toNat) M)))))))) : Ci d q6_tell [zr o, zi a1] M Q := by
  refine Ci.of rfl rfl (Nat.le_of_ble_eq_true rfl) (fun w hw x e => by subst e; simp at hw) (L := [some (zr o), some (zi a1)]) rfl ?_
  refine Xi.up (pc' := 1) (fun _ _ k => x_iload_n dX6_tell_0 rfl rfl k) ?_
  by_cases c0 : a1 = 1
  · refine Xi.up (pc' := 36) (fun _ _ k => x_lookup dX6_tell_1 rfl (off := 35) (by rw [c0]; rfl) rfl k) ?_
    have h := h.1 c0
    refine Xi.up (pc' := 37) (fun _ _ k => x_aload_n dX6_tell_36 rfl rfl k) ?_
    refine Xi.up (pc' := 40) (fun _ _ k => x_getRK hK lf6_21 rfl dX6_tell_37 h0.1 h0.2.2.1 k) ?_
    refine Xi.up (pc' := 43) (fun _ _ k => x_getIK hK lf6_60 rfl dX6_tell_40 h0.2.2.2.2.2.2.2.2.2.2.2.2.1.1 k) ?_
    exact Xi.ret ⟨dX6_tell_43, Or.inl rfl⟩ h
  · skip
    by_cases c1 : a1 = 3
    · refine Xi.up (pc' := 44) (fun _ _ k => x_lookup dX6_tell_1 rfl (off := 43) (by rw [c1]; rfl) rfl k) ?_
      have h := h.2.1 c1
      refine Xi.up (pc' := 45) (fun _ _ k => x_aload_n dX6_tell_44 rfl rfl k) ?_
      refine Xi.up (pc' := 48) (fun _ _ k => x_getRK hK lf6_28 rfl dX6_tell_45 h0.1 h0.2.2.2.1 k) ?_
      refine Xi.up (pc' := 51) (fun _ _ k => x_getIK hK lf6_63 rfl dX6_tell_48 h0.2.2.2.2.2.2.2.2.2.2.2.2.2.1.1 k) ?_
      exact Xi.ret ⟨dX6_tell_51, Or.inl rfl⟩ h
    · skip
      by_cases c2 : a1 = 9
      · refine Xi.up (pc' := 52) (fun _ _ k => x_lookup dX6_tell_1 rfl (off := 51) (by rw [c2]; rfl) rfl k) ?_
        have h := h.2.2.1 c2
        refine Xi.up (pc' := 53) (fun _ _ k => x_aload_n dX6_tell_52 rfl rfl k) ?_
        refine Xi.up (pc' := 56) (fun _ _ k => x_getIK hK lf6_53 rfl dX6_tell_53 h0.1 k) ?_
        refine Xi.up (pc' := 57) (fun _ _ k => x_iconst dX6_tell_56 (show inR 5 from ⟨by decide, by decide⟩) k) ?_
        refine Xi.br (tgt := 67) (pc' := 60) ((mI M o 8) ≠ 5) (fun _ _ kt kf => x_icmp_ne dX6_tell_57 rfl kt kf) (fun c => ?_) (fun c => ?_)
        · have h := h.1 c
          refine Xi.up (pc' := 70) (fun _ _ k => x_sipush dX6_tell_67 (show inR (-2002) from ⟨by decide, by decide⟩) (by decide) k) ?_
          exact Xi.ret ⟨dX6_tell_70, Or.inl rfl⟩ h
        · have h := h.2 c
          refine Xi.up (pc' := 61) (fun _ _ k => x_aload_n dX6_tell_60 rfl rfl k) ?_
          refine Xi.up (pc' := 64) (fun _ _ k => x_getIK hK lf6_64 rfl dX6_tell_61 h0.1 k) ?_
          refine Xi.up (pc' := 70) (fun _ _ k => x_goto dX6_tell_64 rfl k) ?_
          exact Xi.ret ⟨dX6_tell_70, Or.inl rfl⟩ h
      · skip
        refine Xi.up (pc' := 71) (fun _ _ k => x_lookup dX6_tell_1 rfl (off := 70) (by simp [Op.lookupswitch.offset_cons, Op.lookupswitch.offset_nil, Ne.symm c0, c0, Ne.symm c1, c1, Ne.symm c2, c2]) rfl k) ?_
        have h := h.2.2.2 ⟨c0, c1, c2⟩
        refine Xi.up (pc' := 72) (fun _ _ k => x_iload_n dX6_tell_71 rfl rfl k) ?_
        refine Xi.br (tgt := 93) (pc' := 75) (a1 < 0) (fun _ _ kt kf => x_if_lt dX6_tell_72 rfl kt kf) (fun c => ?_) (fun c => ?_)
        · have h := h.1 c
          refine Xi.up (pc' := 94) (fun _ _ k => x_iconst dX6_tell_93 (show inR 0 from ⟨by decide, by decide⟩) k) ?_
          exact Xi.ret ⟨dX6_tell_94, Or.inl rfl⟩ h
        · have h := h.2 c
          refine Xi.up (pc' := 76) (fun _ _ k => x_iload_n dX6_tell_75 rfl rfl k) ?_
          refine Xi.up (pc' := 77) (fun _ _ k => x_aload_n dX6_tell_76 rfl rfl k) ?_
          refine Xi.up (pc' := 80) (fun _ _ k => x_getRK hK lf6_46 rfl dX6_tell_77 h0.1 h0.2.2.2.2.2.2.2.1 k) ?_
          refine Xi.up (pc' := 81) (fun _ _ k => x_alenK hK dX6_tell_80 h0.2.2.2.2.2.2.2.2.2.2.1 (by decide) (by decide) k) ?_
          refine Xi.br (tgt := 93) (pc' := 84) (9 ≤ a1) (fun _ _ kt kf => x_icmp_ge dX6_tell_81 rfl kt kf) (fun c => ?_) (fun c => ?_)
          · have h := h.1 c
            refine Xi.up (pc' := 94) (fun _ _ k => x_iconst dX6_tell_93 (show inR 0 from ⟨by decide, by decide⟩) k) ?_
            exact Xi.ret ⟨dX6_tell_94, Or.inl rfl⟩ h
          · have h := h.2 c
            refine Xi.up (pc' := 85) (fun _ _ k => x_aload_n dX6_tell_84 rfl rfl k) ?_
            refine Xi.up (pc' := 88) (fun _ _ k => x_getRK hK lf6_46 rfl dX6_tell_85 h0.1 h0.2.2.2.2.2.2.2.1 k) ?_
            refine Xi.up (pc' := 89) (fun _ _ k => x_iload_n dX6_tell_88 rfl rfl k) ?_
            obtain ⟨g1, h⟩ := h
            obtain ⟨g2, h⟩ := h
            refine Xi.up (pc' := 90) (fun _ _ k => x_ialoadK hK dX6_tell_89 h0.2.2.2.2.2.2.2.2.2.2.1 g1 g2 k) ?_
            refine Xi.up (pc' := 94) (fun _ _ k => x_goto dX6_tell_90 rfl k) ?_
            exact Xi.ret ⟨dX6_tell_94, Or.inl rfl⟩ h
set_option maxHeartbeats 4000000 in
set_option maxRecDepth 20000 in
theorem B6_tally {d : Nat} {K M : ZMem} {Q : ZMem → Prop} (o : Nat) (a1 : Int) (a2 : Int) (hK : KW K M) (h0 : SearchAt K o) (h : ((a1 < 0 → (Q M)) ∧ (¬ (a1 < 0) → ((9 ≤ a1 → (Q M)) ∧ (¬ (9 ≤ a1) → ((0 ≤ a1) ∧ (a1 < 9) ∧ (inR ((mI M (o + 426) a1.toNat) + a2)) ∧ (0 ≤ a1) ∧ (a1 < 9) ∧ Q (sI M (o + 426) a1.toNat ((mI M (o + 426) a1.toNat) + a2)))))))) : Cv d q6_tally [zr o, zi a1, zi a2] M Q := by
  refine Cv.of rfl rfl (Nat.le_of_ble_eq_true rfl) (fun w hw x e => by subst e; simp at hw) (L := [some (zr o), some (zi a1), some (zi a2)]) rfl ?_
  refine Xv.up (pc' := 1) (fun _ _ k => x_iload_n dX6_tally_0 rfl rfl k) ?_
  refine Xv.br (tgt := 23) (pc' := 4) (a1 < 0) (fun _ _ kt kf => x_if_lt dX6_tally_1 rfl kt kf) (fun c => ?_) (fun c => ?_)
  · have h := h.1 c
    exact Xv.ret ⟨dX6_tally_23, rfl⟩ h
  · have h := h.2 c
    refine Xv.up (pc' := 5) (fun _ _ k => x_iload_n dX6_tally_4 rfl rfl k) ?_
    refine Xv.up (pc' := 6) (fun _ _ k => x_aload_n dX6_tally_5 rfl rfl k) ?_
    refine Xv.up (pc' := 9) (fun _ _ k => x_getRK hK lf6_46 rfl dX6_tally_6 h0.1 h0.2.2.2.2.2.2.2.1 k) ?_
    refine Xv.up (pc' := 10) (fun _ _ k => x_alenK hK dX6_tally_9 h0.2.2.2.2.2.2.2.2.2.2.1 (by decide) (by decide) k) ?_
    refine Xv.br (tgt := 23) (pc' := 13) (9 ≤ a1) (fun _ _ kt kf => x_icmp_ge dX6_tally_10 rfl kt kf) (fun c => ?_) (fun c => ?_)
    · have h := h.1 c
      exact Xv.ret ⟨dX6_tally_23, rfl⟩ h
    · have h := h.2 c
      refine Xv.up (pc' := 14) (fun _ _ k => x_aload_n dX6_tally_13 rfl rfl k) ?_
      refine Xv.up (pc' := 17) (fun _ _ k => x_getRK hK lf6_46 rfl dX6_tally_14 h0.1 h0.2.2.2.2.2.2.2.1 k) ?_
      refine Xv.up (pc' := 18) (fun _ _ k => x_iload_n dX6_tally_17 rfl rfl k) ?_
      refine Xv.up (pc' := 19) (fun _ _ k => x_dup2 dX6_tally_18 k) ?_
      obtain ⟨g1, h⟩ := h
      obtain ⟨g2, h⟩ := h
      refine Xv.up (pc' := 20) (fun _ _ k => x_ialoadK hK dX6_tally_19 h0.2.2.2.2.2.2.2.2.2.2.1 g1 g2 k) ?_
      refine Xv.up (pc' := 21) (fun _ _ k => x_iload_n dX6_tally_20 rfl rfl k) ?_
      obtain ⟨g3, h⟩ := h
      refine Xv.up (pc' := 22) (fun _ _ k => x_iadd dX6_tally_21 g3 k) ?_
      obtain ⟨g4, h⟩ := h
      obtain ⟨g5, h⟩ := h
      refine Xv.up (pc' := 23) (fun _ _ k => x_iastoreK hK dX6_tally_22 h0.2.2.2.2.2.2.2.2.2.2.1 g4 g5 k) ?_
      have hK6 := KW.sI hK (o + 426) a1.toNat ((mI M (o + 426) a1.toNat) + a2)
      exact Xv.ret ⟨dX6_tally_23, rfl⟩ h
set_option maxHeartbeats 4000000 in
set_option maxRecDepth 20000 in
theorem B6_mayTake {d : Nat} {K M : ZMem} {Q : Int → ZMem → Prop} (o : Nat) (hK : KW K M) (h0 : SearchAt K o) (h : (((mI M o 7) ≠ 1 → (Q 0 M)) ∧ (¬ ((mI M o 7) ≠ 1) → (((mI M o 11) ≠ 0 → (Q 0 M)) ∧ (¬ ((mI M o 11) ≠ 0) → (((mI M o 12) ≠ 0 → (Q 0 M)) ∧ (¬ ((mI M o 12) ≠ 0) → (((mI M (o + 20) 1) ≤ 0 → (Q 0 M)) ∧ (¬ ((mI M (o + 20) 1) ≤ 0) → (Q 1 M)))))))))) : Ci d q6_mayTake [zr o] M Q := by
  refine Ci.of rfl rfl (Nat.le_of_ble_eq_true rfl) (fun w hw x e => by subst e; simp at hw) (L := [some (zr o)]) rfl ?_
  refine Xi.up (pc' := 1) (fun _ _ k => x_aload_n dX6_mayTake_0 rfl rfl k) ?_
  refine Xi.up (pc' := 4) (fun _ _ k => x_getIK hK lf6_57 rfl dX6_mayTake_1 h0.1 k) ?_
  refine Xi.up (pc' := 5) (fun _ _ k => x_iconst dX6_mayTake_4 (show inR 1 from ⟨by decide, by decide⟩) k) ?_
  refine Xi.br (tgt := 36) (pc' := 8) ((mI M o 7) ≠ 1) (fun _ _ kt kf => x_icmp_ne dX6_mayTake_5 rfl kt kf) (fun c => ?_) (fun c => ?_)
  · have h := h.1 c
    refine Xi.up (pc' := 37) (fun _ _ k => x_iconst dX6_mayTake_36 (show inR 0 from ⟨by decide, by decide⟩) k) ?_
    exact Xi.ret ⟨dX6_mayTake_37, Or.inr ⟨rfl, Or.inl rfl⟩⟩ h
  · have h := h.2 c
    refine Xi.up (pc' := 9) (fun _ _ k => x_aload_n dX6_mayTake_8 rfl rfl k) ?_
    refine Xi.up (pc' := 12) (fun _ _ k => x_getIK hK lf6_74 rfl dX6_mayTake_9 h0.1 k) ?_
    refine Xi.br (tgt := 36) (pc' := 15) ((mI M o 11) ≠ 0) (fun _ _ kt kf => x_if_ne dX6_mayTake_12 rfl kt kf) (fun c => ?_) (fun c => ?_)
    · have h := h.1 c
      refine Xi.up (pc' := 37) (fun _ _ k => x_iconst dX6_mayTake_36 (show inR 0 from ⟨by decide, by decide⟩) k) ?_
      exact Xi.ret ⟨dX6_mayTake_37, Or.inr ⟨rfl, Or.inl rfl⟩⟩ h
    · have h := h.2 c
      refine Xi.up (pc' := 16) (fun _ _ k => x_aload_n dX6_mayTake_15 rfl rfl k) ?_
      refine Xi.up (pc' := 19) (fun _ _ k => x_getIK hK lf6_77 rfl dX6_mayTake_16 h0.1 k) ?_
      refine Xi.br (tgt := 36) (pc' := 22) ((mI M o 12) ≠ 0) (fun _ _ kt kf => x_if_ne dX6_mayTake_19 rfl kt kf) (fun c => ?_) (fun c => ?_)
      · have h := h.1 c
        refine Xi.up (pc' := 37) (fun _ _ k => x_iconst dX6_mayTake_36 (show inR 0 from ⟨by decide, by decide⟩) k) ?_
        exact Xi.ret ⟨dX6_mayTake_37, Or.inr ⟨rfl, Or.inl rfl⟩⟩ h
      · have h := h.2 c
        refine Xi.up (pc' := 23) (fun _ _ k => x_aload_n dX6_mayTake_22 rfl rfl k) ?_
        refine Xi.up (pc' := 26) (fun _ _ k => x_getRK hK lf6_28 rfl dX6_mayTake_23 h0.1 h0.2.2.2.1 k) ?_
        refine Xi.up (pc' := 29) (fun _ _ k => x_getIK hK lf6_63 rfl dX6_mayTake_26 h0.2.2.2.2.2.2.2.2.2.2.2.2.2.1.1 k) ?_
        refine Xi.br (tgt := 36) (pc' := 32) ((mI M (o + 20) 1) ≤ 0) (fun _ _ kt kf => x_if_le dX6_mayTake_29 rfl kt kf) (fun c => ?_) (fun c => ?_)
        · have h := h.1 c
          refine Xi.up (pc' := 37) (fun _ _ k => x_iconst dX6_mayTake_36 (show inR 0 from ⟨by decide, by decide⟩) k) ?_
          exact Xi.ret ⟨dX6_mayTake_37, Or.inr ⟨rfl, Or.inl rfl⟩⟩ h
        · have h := h.2 c
          refine Xi.up (pc' := 33) (fun _ _ k => x_iconst dX6_mayTake_32 (show inR 1 from ⟨by decide, by decide⟩) k) ?_
          refine Xi.up (pc' := 37) (fun _ _ k => x_goto dX6_mayTake_33 rfl k) ?_
          exact Xi.ret ⟨dX6_mayTake_37, Or.inr ⟨rfl, Or.inr rfl⟩⟩ h
set_option maxHeartbeats 4000000 in
set_option maxRecDepth 20000 in
theorem B6_chosen {d : Nat} {K M : ZMem} {Q : Int → ZMem → Prop} (o : Nat) (hK : KW K M) (h0 : SearchAt K o) (h : (((mI M o 8) = 1 → (Xi (d + 1) q6_chosen 29 [some (zr o), some (zi 1), some (zi (-1)), some (zi 0), some (zi 0), none, none] [] M Q)) ∧ (¬ ((mI M o 8) = 1) → (((mI M o 8) ≠ 2 → (Xi (d + 1) q6_chosen 29 [some (zr o), some (zi 0), some (zi (-1)), some (zi 0), some (zi 0), none, none] [] M Q)) ∧ (¬ ((mI M o 8) ≠ 2) → (Xi (d + 1) q6_chosen 29 [some (zr o), some (zi 1), some (zi (-1)), some (zi 0), some (zi 0), none, none] [] M Q)))))) : Ci (d + 1) q6_chosen [zr o] M Q := by
  refine Ci.of rfl rfl (Nat.le_of_ble_eq_true rfl) (fun w hw x e => by subst e; simp at hw) (L := [some (zr o), none, none, none, none, none, none]) rfl ?_
  refine Xi.up (pc' := 1) (fun _ _ k => x_aload_n dX6_chosen_0 rfl rfl k) ?_
  refine Xi.up (pc' := 4) (fun _ _ k => x_getIK hK lf6_53 rfl dX6_chosen_1 h0.1 k) ?_
  refine Xi.up (pc' := 5) (fun _ _ k => x_iconst dX6_chosen_4 (show inR 1 from ⟨by decide, by decide⟩) k) ?_
  refine Xi.br (tgt := 16) (pc' := 8) ((mI M o 8) = 1) (fun _ _ kt kf => x_icmp_eq dX6_chosen_5 rfl kt kf) (fun c => ?_) (fun c => ?_)
  · have h := h.1 c
    refine Xi.up (pc' := 17) (fun _ _ k => x_iconst dX6_chosen_16 (show inR 1 from ⟨by decide, by decide⟩) k) ?_
    refine Xi.up (pc' := 21) (fun _ _ k => x_goto dX6_chosen_17 rfl k) ?_
    refine Xi.up (pc' := 22) (L' := [some (zr o), some (zi 1), none, none, none, none, none]) (fun _ _ k => x_istore_n dX6_chosen_21 rfl (by decide) rfl k) ?_
    refine Xi.up (pc' := 23) (fun _ _ k => x_iconst dX6_chosen_22 (show inR (-1) from ⟨by decide, by decide⟩) k) ?_
    refine Xi.up (pc' := 24) (L' := [some (zr o), some (zi 1), some (zi (-1)), none, none, none, none]) (fun _ _ k => x_istore_n dX6_chosen_23 rfl (by decide) rfl k) ?_
    refine Xi.up (pc' := 25) (fun _ _ k => x_iconst dX6_chosen_24 (show inR 0 from ⟨by decide, by decide⟩) k) ?_
    refine Xi.up (pc' := 26) (L' := [some (zr o), some (zi 1), some (zi (-1)), some (zi 0), none, none, none]) (fun _ _ k => x_istore_n dX6_chosen_25 rfl (by decide) rfl k) ?_
    refine Xi.up (pc' := 27) (fun _ _ k => x_iconst dX6_chosen_26 (show inR 0 from ⟨by decide, by decide⟩) k) ?_
    refine Xi.up (pc' := 29) (L' := [some (zr o), some (zi 1), some (zi (-1)), some (zi 0), some (zi 0), none, none]) (fun _ _ k => x_istore dX6_chosen_27 (by decide) rfl k) ?_
    exact h
  · have h := h.2 c
    refine Xi.up (pc' := 9) (fun _ _ k => x_aload_n dX6_chosen_8 rfl rfl k) ?_
    refine Xi.up (pc' := 12) (fun _ _ k => x_getIK hK lf6_53 rfl dX6_chosen_9 h0.1 k) ?_
    refine Xi.up (pc' := 13) (fun _ _ k => x_iconst dX6_chosen_12 (show inR 2 from ⟨by decide, by decide⟩) k) ?_
    refine Xi.br (tgt := 20) (pc' := 16) ((mI M o 8) ≠ 2) (fun _ _ kt kf => x_icmp_ne dX6_chosen_13 rfl kt kf) (fun c => ?_) (fun c => ?_)
    · have h := h.1 c
      refine Xi.up (pc' := 21) (fun _ _ k => x_iconst dX6_chosen_20 (show inR 0 from ⟨by decide, by decide⟩) k) ?_
      refine Xi.up (pc' := 22) (L' := [some (zr o), some (zi 0), none, none, none, none, none]) (fun _ _ k => x_istore_n dX6_chosen_21 rfl (by decide) rfl k) ?_
      refine Xi.up (pc' := 23) (fun _ _ k => x_iconst dX6_chosen_22 (show inR (-1) from ⟨by decide, by decide⟩) k) ?_
      refine Xi.up (pc' := 24) (L' := [some (zr o), some (zi 0), some (zi (-1)), none, none, none, none]) (fun _ _ k => x_istore_n dX6_chosen_23 rfl (by decide) rfl k) ?_
      refine Xi.up (pc' := 25) (fun _ _ k => x_iconst dX6_chosen_24 (show inR 0 from ⟨by decide, by decide⟩) k) ?_
      refine Xi.up (pc' := 26) (L' := [some (zr o), some (zi 0), some (zi (-1)), some (zi 0), none, none, none]) (fun _ _ k => x_istore_n dX6_chosen_25 rfl (by decide) rfl k) ?_
      refine Xi.up (pc' := 27) (fun _ _ k => x_iconst dX6_chosen_26 (show inR 0 from ⟨by decide, by decide⟩) k) ?_
      refine Xi.up (pc' := 29) (L' := [some (zr o), some (zi 0), some (zi (-1)), some (zi 0), some (zi 0), none, none]) (fun _ _ k => x_istore dX6_chosen_27 (by decide) rfl k) ?_
      exact h
    · have h := h.2 c
      refine Xi.up (pc' := 17) (fun _ _ k => x_iconst dX6_chosen_16 (show inR 1 from ⟨by decide, by decide⟩) k) ?_
      refine Xi.up (pc' := 21) (fun _ _ k => x_goto dX6_chosen_17 rfl k) ?_
      refine Xi.up (pc' := 22) (L' := [some (zr o), some (zi 1), none, none, none, none, none]) (fun _ _ k => x_istore_n dX6_chosen_21 rfl (by decide) rfl k) ?_
      refine Xi.up (pc' := 23) (fun _ _ k => x_iconst dX6_chosen_22 (show inR (-1) from ⟨by decide, by decide⟩) k) ?_
      refine Xi.up (pc' := 24) (L' := [some (zr o), some (zi 1), some (zi (-1)), none, none, none, none]) (fun _ _ k => x_istore_n dX6_chosen_23 rfl (by decide) rfl k) ?_
      refine Xi.up (pc' := 25) (fun _ _ k => x_iconst dX6_chosen_24 (show inR 0 from ⟨by decide, by decide⟩) k) ?_
      refine Xi.up (pc' := 26) (L' := [some (zr o), some (zi 1), some (zi (-1)), some (zi 0), none, none, none]) (fun _ _ k => x_istore_n dX6_chosen_25 rfl (by decide) rfl k) ?_
      refine Xi.up (pc' := 27) (fun _ _ k => x_iconst dX6_chosen_26 (show inR 0 from ⟨by decide, by decide⟩) k) ?_
      refine Xi.up (pc' := 29) (L' := [some (zr o), some (zi 1), some (zi (-1)), some (zi 0), some (zi 0), none, none]) (fun _ _ k => x_istore dX6_chosen_27 (by decide) rfl k) ?_
      exact h
set_option maxHeartbeats 4000000 in
set_option maxRecDepth 20000 in
theorem B6_chosen_29 {d : Nat} {K M : ZMem} {Q : Int → ZMem → Prop} (o : Nat) (l1 : Int) (l2 : Int) (l3 : Int) (l4 : Int) (hK : KW K M) (h0 : SearchAt K o) (h : (((mI M (o + 20) 1) ≤ l4 → (Q l2 M)) ∧ (¬ ((mI M (o + 20) 1) ≤ l4) → (Cq d q3_openAt [zr (o + 20), zi l4] M (fun x2 M1 => KW K M1 ∧ ((x2 ≠ 0 → ((PointAt K x2) ∧ Ci d q2_weight [zr x2, zi (mI M1 o 8)] M1 (fun x7 M6 => KW K M6 ∧ ((l2 = (-1) → ((inR (l4 + 1)) ∧ Xi (d + 1) q6_chosen 29 [some (zr o), some (zi l1), some (zi l4), some (zi x7), some (zi (l4 + 1)), none, none] [] M6 Q)) ∧ (¬ (l2 = (-1)) → ((x7 < l3 → ((inR (l4 + 1)) ∧ Xi (d + 1) q6_chosen 29 [some (zr o), some (zi l1), some (zi l4), some (zi x7), some (zi (l4 + 1)), none, none] [] M6 Q)) ∧ (¬ (x7 < l3) → ((x7 ≠ l3 → ((inR (l4 + 1)) ∧ Xi (d + 1) q6_chosen 29 [some (zr o), some (zi l1), some (zi l2), some (zi l3), some (zi (l4 + 1)), none, none] [] M6 Q)) ∧ (¬ (x7 ≠ l3) → ((l1 ≠ 0 → ((inR (l4 + 1)) ∧ Xi (d + 1) q6_chosen 29 [some (zr o), some (zi l1), some (zi l2), some (zi l3), some (zi (l4 + 1)), none, none] [] M6 Q)) ∧ (¬ (l1 ≠ 0) → ((inR (l4 + 1)) ∧ Xi (d + 1) q6_chosen 29 [some (zr o), some (zi l1), some (zi l4), some (zi x7), some (zi (l4 + 1)), none, none] [] M6 Q)))))))))))) ∧ (¬ (x2 ≠ 0) → ((l2 = (-1) → ((inR (l4 + 1)) ∧ Xi (d + 1) q6_chosen 29 [some (zr o), some (zi l1), some (zi l4), some (zi 0), some (zi (l4 + 1)), none, none] [] M1 Q)) ∧ (¬ (l2 = (-1)) → ((0 < l3 → ((inR (l4 + 1)) ∧ Xi (d + 1) q6_chosen 29 [some (zr o), some (zi l1), some (zi l4), some (zi 0), some (zi (l4 + 1)), none, none] [] M1 Q)) ∧ (¬ (0 < l3) → ((0 ≠ l3 → ((inR (l4 + 1)) ∧ Xi (d + 1) q6_chosen 29 [some (zr o), some (zi l1), some (zi l2), some (zi l3), some (zi (l4 + 1)), none, none] [] M1 Q)) ∧ (¬ (0 ≠ l3) → ((l1 ≠ 0 → ((inR (l4 + 1)) ∧ Xi (d + 1) q6_chosen 29 [some (zr o), some (zi l1), some (zi l2), some (zi l3), some (zi (l4 + 1)), none, none] [] M1 Q)) ∧ (¬ (l1 ≠ 0) → ((inR (l4 + 1)) ∧ Xi (d + 1) q6_chosen 29 [some (zr o), some (zi l1), some (zi l4), some (zi 0), some (zi (l4 + 1)), none, none] [] M1 Q)))))))))))))))) : Xi (d + 1) q6_chosen 29 [some (zr o), some (zi l1), some (zi l2), some (zi l3), some (zi l4), none, none] [] M Q := by
  refine Xi.up (pc' := 31) (fun _ _ k => x_iload dX6_chosen_29 rfl k) ?_
  refine Xi.up (pc' := 32) (fun _ _ k => x_aload_n dX6_chosen_31 rfl rfl k) ?_
  refine Xi.up (pc' := 35) (fun _ _ k => x_getRK hK lf6_28 rfl dX6_chosen_32 h0.1 h0.2.2.2.1 k) ?_
  refine Xi.up (pc' := 38) (fun _ _ k => x_getIK hK lf6_63 rfl dX6_chosen_35 h0.2.2.2.2.2.2.2.2.2.2.2.2.2.1.1 k) ?_
  refine Xi.br (tgt := 105) (pc' := 41) ((mI M (o + 20) 1) ≤ l4) (fun _ _ kt kf => x_icmp_ge dX6_chosen_38 rfl kt kf) (fun c => ?_) (fun c => ?_)
  · have h := h.1 c
    refine Xi.up (pc' := 106) (fun _ _ k => x_iload_n dX6_chosen_105 rfl rfl k) ?_
    exact Xi.ret ⟨dX6_chosen_106, Or.inl rfl⟩ h
  · have h := h.2 c
    refine Xi.up (pc' := 42) (fun _ _ k => x_aload_n dX6_chosen_41 rfl rfl k) ?_
    refine Xi.up (pc' := 45) (fun _ _ k => x_getRK hK lf6_28 rfl dX6_chosen_42 h0.1 h0.2.2.2.1 k) ?_
    refine Xi.up (pc' := 47) (fun _ _ k => x_iload dX6_chosen_45 rfl k) ?_
    obtain ⟨x2, M1, hc4, hK3, h⟩ := h
    refine Xi.up (pc' := 50) (st' := [zr x2]) (fun _ _ k => x_callVK (ci := 3) (as := [zi l4]) (st := []) hK k3_openAt lm6_102 dX6_chosen_47 rfl (by decide) (zs8 rfl) h0.2.2.2.2.2.2.2.2.2.2.2.2.2.1.1 ⟨_, _, rfl⟩ hc4 k) ?_
    refine Xi.up (pc' := 52) (L' := [some (zr o), some (zi l1), some (zi l2), some (zi l3), some (zi l4), some (zr x2), none]) (fun _ _ k => x_astore dX6_chosen_50 (by decide) rfl k) ?_
    refine Xi.up (pc' := 54) (fun _ _ k => x_aload dX6_chosen_52 rfl k) ?_
    refine Xi.br (tgt := 61) (pc' := 57) (x2 ≠ 0) (fun _ _ kt kf => x_ifnonnull dX6_chosen_54 rfl kt (fun e => kf (fun n => n e))) (fun c => ?_) (fun c => ?_)
    · have h := h.1 c
      refine Xi.up (pc' := 63) (fun _ _ k => x_aload dX6_chosen_61 rfl k) ?_
      refine Xi.up (pc' := 64) (fun _ _ k => x_aload_n dX6_chosen_63 rfl rfl k) ?_
      refine Xi.up (pc' := 67) (fun _ _ k => x_getIK hK3 lf6_53 rfl dX6_chosen_64 h0.1 k) ?_
      obtain ⟨g5, h⟩ := h
      obtain ⟨x7, M6, hc9, hK8, h⟩ := h
      refine Xi.up (pc' := 70) (st' := [zi x7]) (fun _ _ k => x_callVK (ci := 2) (as := [zi (mI M1 o 8)]) (st := []) hK3 k2_weight lm6_106 dX6_chosen_67 rfl (by decide) (zs8 rfl) g5.1 ⟨_, _, rfl⟩ hc9 k) ?_
      refine Xi.up (pc' := 72) (L' := [some (zr o), some (zi l1), some (zi l2), some (zi l3), some (zi l4), some (zr x2), some (zi x7)]) (fun _ _ k => x_istore dX6_chosen_70 (by decide) rfl k) ?_
      refine Xi.up (pc' := 73) (fun _ _ k => x_iload_n dX6_chosen_72 rfl rfl k) ?_
      refine Xi.up (pc' := 74) (fun _ _ k => x_iconst dX6_chosen_73 (show inR (-1) from ⟨by decide, by decide⟩) k) ?_
      refine Xi.br (tgt := 93) (pc' := 77) (l2 = (-1)) (fun _ _ kt kf => x_icmp_eq dX6_chosen_74 rfl kt kf) (fun c => ?_) (fun c => ?_)
      · have h := h.1 c
        refine Xi.up (pc' := 95) (fun _ _ k => x_iload dX6_chosen_93 rfl k) ?_
        refine Xi.up (pc' := 96) (L' := [some (zr o), some (zi l1), some (zi l4), some (zi l3), some (zi l4), some (zr x2), some (zi x7)]) (fun _ _ k => x_istore_n dX6_chosen_95 rfl (by decide) rfl k) ?_
        refine Xi.up (pc' := 98) (fun _ _ k => x_iload dX6_chosen_96 rfl k) ?_
        refine Xi.up (pc' := 99) (L' := [some (zr o), some (zi l1), some (zi l4), some (zi x7), some (zi l4), some (zr x2), some (zi x7)]) (fun _ _ k => x_istore_n dX6_chosen_98 rfl (by decide) rfl k) ?_
        obtain ⟨g10, h⟩ := h
        refine Xi.up (pc' := 102) (L' := [some (zr o), some (zi l1), some (zi l4), some (zi x7), some (zi (l4 + 1)), some (zr x2), some (zi x7)]) (fun _ _ k => x_iinc dX6_chosen_99 rfl g10 (by decide) rfl k) ?_
        refine Xi.up (pc' := 29) (fun _ _ k => x_goto dX6_chosen_102 rfl k) ?_
        exact Xi.up (fun _ _ k => x_less (L' := [some (zr o), some (zi l1), some (zi l4), some (zi x7), some (zi (l4 + 1)), none, none]) (⟨rfl, ⟨rfl, ⟨rfl, ⟨rfl, ⟨rfl, trivial⟩⟩⟩⟩⟩) k) h
      · have h := h.2 c
        refine Xi.up (pc' := 79) (fun _ _ k => x_iload dX6_chosen_77 rfl k) ?_
        refine Xi.up (pc' := 80) (fun _ _ k => x_iload_n dX6_chosen_79 rfl rfl k) ?_
        refine Xi.br (tgt := 93) (pc' := 83) (x7 < l3) (fun _ _ kt kf => x_icmp_lt dX6_chosen_80 rfl kt kf) (fun c => ?_) (fun c => ?_)
        · have h := h.1 c
          refine Xi.up (pc' := 95) (fun _ _ k => x_iload dX6_chosen_93 rfl k) ?_
          refine Xi.up (pc' := 96) (L' := [some (zr o), some (zi l1), some (zi l4), some (zi l3), some (zi l4), some (zr x2), some (zi x7)]) (fun _ _ k => x_istore_n dX6_chosen_95 rfl (by decide) rfl k) ?_
          refine Xi.up (pc' := 98) (fun _ _ k => x_iload dX6_chosen_96 rfl k) ?_
          refine Xi.up (pc' := 99) (L' := [some (zr o), some (zi l1), some (zi l4), some (zi x7), some (zi l4), some (zr x2), some (zi x7)]) (fun _ _ k => x_istore_n dX6_chosen_98 rfl (by decide) rfl k) ?_
          obtain ⟨g11, h⟩ := h
          refine Xi.up (pc' := 102) (L' := [some (zr o), some (zi l1), some (zi l4), some (zi x7), some (zi (l4 + 1)), some (zr x2), some (zi x7)]) (fun _ _ k => x_iinc dX6_chosen_99 rfl g11 (by decide) rfl k) ?_
          refine Xi.up (pc' := 29) (fun _ _ k => x_goto dX6_chosen_102 rfl k) ?_
          exact Xi.up (fun _ _ k => x_less (L' := [some (zr o), some (zi l1), some (zi l4), some (zi x7), some (zi (l4 + 1)), none, none]) (⟨rfl, ⟨rfl, ⟨rfl, ⟨rfl, ⟨rfl, trivial⟩⟩⟩⟩⟩) k) h
        · have h := h.2 c
          refine Xi.up (pc' := 85) (fun _ _ k => x_iload dX6_chosen_83 rfl k) ?_
          refine Xi.up (pc' := 86) (fun _ _ k => x_iload_n dX6_chosen_85 rfl rfl k) ?_
          refine Xi.br (tgt := 99) (pc' := 89) (x7 ≠ l3) (fun _ _ kt kf => x_icmp_ne dX6_chosen_86 rfl kt kf) (fun c => ?_) (fun c => ?_)
          · have h := h.1 c
            obtain ⟨g12, h⟩ := h
            refine Xi.up (pc' := 102) (L' := [some (zr o), some (zi l1), some (zi l2), some (zi l3), some (zi (l4 + 1)), some (zr x2), some (zi x7)]) (fun _ _ k => x_iinc dX6_chosen_99 rfl g12 (by decide) rfl k) ?_
            refine Xi.up (pc' := 29) (fun _ _ k => x_goto dX6_chosen_102 rfl k) ?_
            exact Xi.up (fun _ _ k => x_less (L' := [some (zr o), some (zi l1), some (zi l2), some (zi l3), some (zi (l4 + 1)), none, none]) (⟨rfl, ⟨rfl, ⟨rfl, ⟨rfl, ⟨rfl, trivial⟩⟩⟩⟩⟩) k) h
          · have h := h.2 c
            refine Xi.up (pc' := 90) (fun _ _ k => x_iload_n dX6_chosen_89 rfl rfl k) ?_
            refine Xi.br (tgt := 99) (pc' := 93) (l1 ≠ 0) (fun _ _ kt kf => x_if_ne dX6_chosen_90 rfl kt kf) (fun c => ?_) (fun c => ?_)
            · have h := h.1 c
              obtain ⟨g13, h⟩ := h
              refine Xi.up (pc' := 102) (L' := [some (zr o), some (zi l1), some (zi l2), some (zi l3), some (zi (l4 + 1)), some (zr x2), some (zi x7)]) (fun _ _ k => x_iinc dX6_chosen_99 rfl g13 (by decide) rfl k) ?_
              refine Xi.up (pc' := 29) (fun _ _ k => x_goto dX6_chosen_102 rfl k) ?_
              exact Xi.up (fun _ _ k => x_less (L' := [some (zr o), some (zi l1), some (zi l2), some (zi l3), some (zi (l4 + 1)), none, none]) (⟨rfl, ⟨rfl, ⟨rfl, ⟨rfl, ⟨rfl, trivial⟩⟩⟩⟩⟩) k) h
            · have h := h.2 c
              refine Xi.up (pc' := 95) (fun _ _ k => x_iload dX6_chosen_93 rfl k) ?_
              refine Xi.up (pc' := 96) (L' := [some (zr o), some (zi l1), some (zi l4), some (zi l3), some (zi l4), some (zr x2), some (zi x7)]) (fun _ _ k => x_istore_n dX6_chosen_95 rfl (by decide) rfl k) ?_
              refine Xi.up (pc' := 98) (fun _ _ k => x_iload dX6_chosen_96 rfl k) ?_
              refine Xi.up (pc' := 99) (L' := [some (zr o), some (zi l1), some (zi l4), some (zi x7), some (zi l4), some (zr x2), some (zi x7)]) (fun _ _ k => x_istore_n dX6_chosen_98 rfl (by decide) rfl k) ?_
              obtain ⟨g14, h⟩ := h
              refine Xi.up (pc' := 102) (L' := [some (zr o), some (zi l1), some (zi l4), some (zi x7), some (zi (l4 + 1)), some (zr x2), some (zi x7)]) (fun _ _ k => x_iinc dX6_chosen_99 rfl g14 (by decide) rfl k) ?_
              refine Xi.up (pc' := 29) (fun _ _ k => x_goto dX6_chosen_102 rfl k) ?_
              exact Xi.up (fun _ _ k => x_less (L' := [some (zr o), some (zi l1), some (zi l4), some (zi x7), some (zi (l4 + 1)), none, none]) (⟨rfl, ⟨rfl, ⟨rfl, ⟨rfl, ⟨rfl, trivial⟩⟩⟩⟩⟩) k) h
    · have h := h.2 c
      refine Xi.up (pc' := 58) (fun _ _ k => x_iconst dX6_chosen_57 (show inR 0 from ⟨by decide, by decide⟩) k) ?_
      refine Xi.up (pc' := 70) (fun _ _ k => x_goto dX6_chosen_58 rfl k) ?_
      refine Xi.up (pc' := 72) (L' := [some (zr o), some (zi l1), some (zi l2), some (zi l3), some (zi l4), some (zr x2), some (zi 0)]) (fun _ _ k => x_istore dX6_chosen_70 (by decide) rfl k) ?_
      refine Xi.up (pc' := 73) (fun _ _ k => x_iload_n dX6_chosen_72 rfl rfl k) ?_
      refine Xi.up (pc' := 74) (fun _ _ k => x_iconst dX6_chosen_73 (show inR (-1) from ⟨by decide, by decide⟩) k) ?_
      refine Xi.br (tgt := 93) (pc' := 77) (l2 = (-1)) (fun _ _ kt kf => x_icmp_eq dX6_chosen_74 rfl kt kf) (fun c => ?_) (fun c => ?_)
      · have h := h.1 c
        refine Xi.up (pc' := 95) (fun _ _ k => x_iload dX6_chosen_93 rfl k) ?_
        refine Xi.up (pc' := 96) (L' := [some (zr o), some (zi l1), some (zi l4), some (zi l3), some (zi l4), some (zr x2), some (zi 0)]) (fun _ _ k => x_istore_n dX6_chosen_95 rfl (by decide) rfl k) ?_
        refine Xi.up (pc' := 98) (fun _ _ k => x_iload dX6_chosen_96 rfl k) ?_
        refine Xi.up (pc' := 99) (L' := [some (zr o), some (zi l1), some (zi l4), some (zi 0), some (zi l4), some (zr x2), some (zi 0)]) (fun _ _ k => x_istore_n dX6_chosen_98 rfl (by decide) rfl k) ?_
        obtain ⟨g15, h⟩ := h
        refine Xi.up (pc' := 102) (L' := [some (zr o), some (zi l1), some (zi l4), some (zi 0), some (zi (l4 + 1)), some (zr x2), some (zi 0)]) (fun _ _ k => x_iinc dX6_chosen_99 rfl g15 (by decide) rfl k) ?_
        refine Xi.up (pc' := 29) (fun _ _ k => x_goto dX6_chosen_102 rfl k) ?_
        exact Xi.up (fun _ _ k => x_less (L' := [some (zr o), some (zi l1), some (zi l4), some (zi 0), some (zi (l4 + 1)), none, none]) (⟨rfl, ⟨rfl, ⟨rfl, ⟨rfl, ⟨rfl, trivial⟩⟩⟩⟩⟩) k) h
      · have h := h.2 c
        refine Xi.up (pc' := 79) (fun _ _ k => x_iload dX6_chosen_77 rfl k) ?_
        refine Xi.up (pc' := 80) (fun _ _ k => x_iload_n dX6_chosen_79 rfl rfl k) ?_
        refine Xi.br (tgt := 93) (pc' := 83) ((0 : Int) < l3) (fun _ _ kt kf => x_icmp_lt dX6_chosen_80 rfl kt kf) (fun c => ?_) (fun c => ?_)
        · have h := h.1 c
          refine Xi.up (pc' := 95) (fun _ _ k => x_iload dX6_chosen_93 rfl k) ?_
          refine Xi.up (pc' := 96) (L' := [some (zr o), some (zi l1), some (zi l4), some (zi l3), some (zi l4), some (zr x2), some (zi 0)]) (fun _ _ k => x_istore_n dX6_chosen_95 rfl (by decide) rfl k) ?_
          refine Xi.up (pc' := 98) (fun _ _ k => x_iload dX6_chosen_96 rfl k) ?_
          refine Xi.up (pc' := 99) (L' := [some (zr o), some (zi l1), some (zi l4), some (zi 0), some (zi l4), some (zr x2), some (zi 0)]) (fun _ _ k => x_istore_n dX6_chosen_98 rfl (by decide) rfl k) ?_
          obtain ⟨g16, h⟩ := h
          refine Xi.up (pc' := 102) (L' := [some (zr o), some (zi l1), some (zi l4), some (zi 0), some (zi (l4 + 1)), some (zr x2), some (zi 0)]) (fun _ _ k => x_iinc dX6_chosen_99 rfl g16 (by decide) rfl k) ?_
          refine Xi.up (pc' := 29) (fun _ _ k => x_goto dX6_chosen_102 rfl k) ?_
          exact Xi.up (fun _ _ k => x_less (L' := [some (zr o), some (zi l1), some (zi l4), some (zi 0), some (zi (l4 + 1)), none, none]) (⟨rfl, ⟨rfl, ⟨rfl, ⟨rfl, ⟨rfl, trivial⟩⟩⟩⟩⟩) k) h
        · have h := h.2 c
          refine Xi.up (pc' := 85) (fun _ _ k => x_iload dX6_chosen_83 rfl k) ?_
          refine Xi.up (pc' := 86) (fun _ _ k => x_iload_n dX6_chosen_85 rfl rfl k) ?_
          refine Xi.br (tgt := 99) (pc' := 89) ((0 : Int) ≠ l3) (fun _ _ kt kf => x_icmp_ne dX6_chosen_86 rfl kt kf) (fun c => ?_) (fun c => ?_)
          · have h := h.1 c
            obtain ⟨g17, h⟩ := h
            refine Xi.up (pc' := 102) (L' := [some (zr o), some (zi l1), some (zi l2), some (zi l3), some (zi (l4 + 1)), some (zr x2), some (zi 0)]) (fun _ _ k => x_iinc dX6_chosen_99 rfl g17 (by decide) rfl k) ?_
            refine Xi.up (pc' := 29) (fun _ _ k => x_goto dX6_chosen_102 rfl k) ?_
            exact Xi.up (fun _ _ k => x_less (L' := [some (zr o), some (zi l1), some (zi l2), some (zi l3), some (zi (l4 + 1)), none, none]) (⟨rfl, ⟨rfl, ⟨rfl, ⟨rfl, ⟨rfl, trivial⟩⟩⟩⟩⟩) k) h
          · have h := h.2 c
            refine Xi.up (pc' := 90) (fun _ _ k => x_iload_n dX6_chosen_89 rfl rfl k) ?_
            refine Xi.br (tgt := 99) (pc' := 93) (l1 ≠ 0) (fun _ _ kt kf => x_if_ne dX6_chosen_90 rfl kt kf) (fun c => ?_) (fun c => ?_)
            · have h := h.1 c
              obtain ⟨g18, h⟩ := h
              refine Xi.up (pc' := 102) (L' := [some (zr o), some (zi l1), some (zi l2), some (zi l3), some (zi (l4 + 1)), some (zr x2), some (zi 0)]) (fun _ _ k => x_iinc dX6_chosen_99 rfl g18 (by decide) rfl k) ?_
              refine Xi.up (pc' := 29) (fun _ _ k => x_goto dX6_chosen_102 rfl k) ?_
              exact Xi.up (fun _ _ k => x_less (L' := [some (zr o), some (zi l1), some (zi l2), some (zi l3), some (zi (l4 + 1)), none, none]) (⟨rfl, ⟨rfl, ⟨rfl, ⟨rfl, ⟨rfl, trivial⟩⟩⟩⟩⟩) k) h
            · have h := h.2 c
              refine Xi.up (pc' := 95) (fun _ _ k => x_iload dX6_chosen_93 rfl k) ?_
              refine Xi.up (pc' := 96) (L' := [some (zr o), some (zi l1), some (zi l4), some (zi l3), some (zi l4), some (zr x2), some (zi 0)]) (fun _ _ k => x_istore_n dX6_chosen_95 rfl (by decide) rfl k) ?_
              refine Xi.up (pc' := 98) (fun _ _ k => x_iload dX6_chosen_96 rfl k) ?_
              refine Xi.up (pc' := 99) (L' := [some (zr o), some (zi l1), some (zi l4), some (zi 0), some (zi l4), some (zr x2), some (zi 0)]) (fun _ _ k => x_istore_n dX6_chosen_98 rfl (by decide) rfl k) ?_
              obtain ⟨g19, h⟩ := h
              refine Xi.up (pc' := 102) (L' := [some (zr o), some (zi l1), some (zi l4), some (zi 0), some (zi (l4 + 1)), some (zr x2), some (zi 0)]) (fun _ _ k => x_iinc dX6_chosen_99 rfl g19 (by decide) rfl k) ?_
              refine Xi.up (pc' := 29) (fun _ _ k => x_goto dX6_chosen_102 rfl k) ?_
              exact Xi.up (fun _ _ k => x_less (L' := [some (zr o), some (zi l1), some (zi l4), some (zi 0), some (zi (l4 + 1)), none, none]) (⟨rfl, ⟨rfl, ⟨rfl, ⟨rfl, ⟨rfl, trivial⟩⟩⟩⟩⟩) k) h
set_option maxHeartbeats 4000000 in
set_option maxRecDepth 20000 in
theorem B6_run {d : Nat} {K M : ZMem} {Q : Int → ZMem → Prop} (o : Nat) (a1 : Int) (a2 : Int) (hK : KW K M) (h0 : SearchAt K o) (h : Xi (d + 1) q6_run 7 [some (zr o), none, some (zi a2), some (zi 0), none, none] [] (sI M o 13 a1) Q) : Ci (d + 1) q6_run [zr o, zi a1, zi a2] M Q := by
  refine Ci.of rfl rfl (Nat.le_of_ble_eq_true rfl) (fun w hw x e => by subst e; simp at hw) (L := [some (zr o), some (zi a1), some (zi a2), none, none, none]) rfl ?_
  refine Xi.up (pc' := 1) (fun _ _ k => x_aload_n dX6_run_0 rfl rfl k) ?_
  refine Xi.up (pc' := 2) (fun _ _ k => x_iload_n dX6_run_1 rfl rfl k) ?_
  refine Xi.up (pc' := 5) (fun _ _ k => x_putIK hK lf6_112 rfl rfl (Or.inl rfl) dX6_run_2 h0.1 k) ?_
  have hK1 := KW.sI hK o 13 a1
  refine Xi.up (pc' := 6) (fun _ _ k => x_iconst dX6_run_5 (show inR 0 from ⟨by decide, by decide⟩) k) ?_
  refine Xi.up (pc' := 7) (L' := [some (zr o), some (zi a1), some (zi a2), some (zi 0), none, none]) (fun _ _ k => x_istore_n dX6_run_6 rfl (by decide) rfl k) ?_
  exact Xi.up (fun _ _ k => x_less (L' := [some (zr o), none, some (zi a2), some (zi 0), none, none]) (⟨rfl, ⟨rfl, ⟨rfl, trivial⟩⟩⟩) k) h
set_option maxHeartbeats 4000000 in
set_option maxRecDepth 20000 in
theorem B6_run_7 {d : Nat} {K M : ZMem} {Q : Int → ZMem → Prop} (o : Nat) (a2 : Int) (l3 : Int) (hK : KW K M) (h0 : SearchAt K o) (h : ((1000000 ≤ l3 → (Q 2 M)) ∧ (¬ (1000000 ≤ l3) → (Cq d q6_currentWay [zr o] M (fun x2 M1 => KW K M1 ∧ (((mI M1 o 12) ≠ 0 → ((WayAt K x2) ∧ (((mI M1 x2 3) ≠ (-1) → (Ci d q6_spend [zr o] M1 (fun x7 M6 => KW K M6 ∧ ((x7 = 0 → (Q 2 M6)) ∧ (¬ (x7 = 0) → (Ci d q6_beginStatement [zr o, zr x2] M6 (fun x11 M10 => KW K M10 ∧ ((x11 = 0 → ((inR (l3 + 1)) ∧ Xi (d + 1) q6_run 7 [some (zr o), none, some (zi a2), some (zi (l3 + 1)), none, none] [] M10 Q)) ∧ (¬ (x11 = 0) → ((x11 ≠ 1 → (Q x11 M10)) ∧ (¬ (x11 ≠ 1) → ((a2 = 0 → ((inR (l3 + 1)) ∧ Xi (d + 1) q6_run 7 [some (zr o), none, some (zi a2), some (zi (l3 + 1)), none, none] [] M10 Q)) ∧ (¬ (a2 = 0) → (Q x11 M10)))))))))))))) ∧ (¬ ((mI M1 x2 3) ≠ (-1)) → (Ci d q6_endPart [zr o, zr x2] M1 (fun x17 M16 => KW K M16 ∧ ((x17 = 0 → ((inR (l3 + 1)) ∧ Xi (d + 1) q6_run 7 [some (zr o), none, some (zi a2), some (zi (l3 + 1)), none, none] [] M16 Q)) ∧ (¬ (x17 = 0) → ((x17 ≠ 1 → (Q x17 M16)) ∧ (¬ (x17 ≠ 1) → ((a2 = 0 → ((inR (l3 + 1)) ∧ Xi (d + 1) q6_run 7 [some (zr o), none, some (zi a2), some (zi (l3 + 1)), none, none] [] M16 Q)) ∧ (¬ (a2 = 0) → (Q x17 M16))))))))))))) ∧ (¬ ((mI M1 o 12) ≠ 0) → (Ci d q6_goBack [zr o, zr x2] M1 (fun x23 M22 => KW K M22 ∧ ((x23 = 0 → ((inR (l3 + 1)) ∧ Xi (d + 1) q6_run 7 [some (zr o), none, some (zi a2), some (zi (l3 + 1)), none, none] [] M22 Q)) ∧ (¬ (x23 = 0) → ((x23 ≠ 1 → (Q x23 M22)) ∧ (¬ (x23 ≠ 1) → ((a2 = 0 → ((inR (l3 + 1)) ∧ Xi (d + 1) q6_run 7 [some (zr o), none, some (zi a2), some (zi (l3 + 1)), none, none] [] M22 Q)) ∧ (¬ (a2 = 0) → (Q x23 M22)))))))))))))))) : Xi (d + 1) q6_run 7 [some (zr o), none, some (zi a2), some (zi l3), none, none] [] M Q := by
  refine Xi.up (pc' := 8) (fun _ _ k => x_iload_n dX6_run_7 rfl rfl k) ?_
  refine Xi.up (pc' := 10) (fun _ _ k => x_ldc li6_115 dX6_run_8 (show inR 1000000 from ⟨by decide, by decide⟩) rfl k) ?_
  refine Xi.br (tgt := 100) (pc' := 13) (1000000 ≤ l3) (fun _ _ kt kf => x_icmp_ge dX6_run_10 rfl kt kf) (fun c => ?_) (fun c => ?_)
  · have h := h.1 c
    refine Xi.up (pc' := 101) (fun _ _ k => x_iconst dX6_run_100 (show inR 2 from ⟨by decide, by decide⟩) k) ?_
    exact Xi.ret ⟨dX6_run_101, Or.inl rfl⟩ h
  · have h := h.2 c
    refine Xi.up (pc' := 14) (fun _ _ k => x_aload_n dX6_run_13 rfl rfl k) ?_
    obtain ⟨x2, M1, hc4, hK3, h⟩ := h
    refine Xi.up (pc' := 17) (st' := [zr x2]) (fun _ _ k => x_callVK (ci := 6) (as := []) (st := []) hK k6_currentWay lm6_80 dX6_run_14 rfl (by decide) (zs8 rfl) h0.1 ⟨_, _, rfl⟩ hc4 k) ?_
    refine Xi.up (pc' := 19) (L' := [some (zr o), none, some (zi a2), some (zi l3), some (zr x2), none]) (fun _ _ k => x_astore dX6_run_17 (by decide) rfl k) ?_
    refine Xi.up (pc' := 20) (fun _ _ k => x_aload_n dX6_run_19 rfl rfl k) ?_
    refine Xi.up (pc' := 23) (fun _ _ k => x_getIK hK3 lf6_77 rfl dX6_run_20 h0.1 k) ?_
    refine Xi.br (tgt := 37) (pc' := 26) ((mI M1 o 12) ≠ 0) (fun _ _ kt kf => x_if_ne dX6_run_23 rfl kt kf) (fun c => ?_) (fun c => ?_)
    · have h := h.1 c
      refine Xi.up (pc' := 39) (fun _ _ k => x_aload dX6_run_37 rfl k) ?_
      obtain ⟨g5, h⟩ := h
      refine Xi.up (pc' := 42) (L' := [some (zr o), none, some (zi a2), some (zi l3), some (zr x2), none]) (fun _ _ k => x_getIK hK3 lf6_120 rfl dX6_run_39 g5.1 k) ?_
      refine Xi.up (pc' := 43) (fun _ _ k => x_iconst dX6_run_42 (show inR (-1) from ⟨by decide, by decide⟩) k) ?_
      refine Xi.br (tgt := 57) (pc' := 46) ((mI M1 x2 3) ≠ (-1)) (fun _ _ kt kf => x_icmp_ne dX6_run_43 rfl kt kf) (fun c => ?_) (fun c => ?_)
      · have h := h.1 c
        refine Xi.up (pc' := 58) (fun _ _ k => x_aload_n dX6_run_57 rfl rfl k) ?_
        obtain ⟨x7, M6, hc9, hK8, h⟩ := h
        refine Xi.up (pc' := 61) (st' := [zi x7]) (fun _ _ k => x_callVK (ci := 6) (as := []) (st := []) hK3 k6_spend lm6_126 dX6_run_58 rfl (by decide) (zs8 rfl) h0.1 ⟨_, _, rfl⟩ hc9 k) ?_
        refine Xi.br (tgt := 73) (pc' := 64) (x7 = 0) (fun _ _ kt kf => x_if_eq dX6_run_61 rfl kt kf) (fun c => ?_) (fun c => ?_)
        · have h := h.1 c
          refine Xi.up (pc' := 74) (fun _ _ k => x_iconst dX6_run_73 (show inR 2 from ⟨by decide, by decide⟩) k) ?_
          refine Xi.up (pc' := 76) (L' := [some (zr o), none, some (zi a2), some (zi l3), some (zr x2), some (zi 2)]) (fun _ _ k => x_istore dX6_run_74 (by decide) rfl k) ?_
          refine Xi.up (pc' := 78) (fun _ _ k => x_iload dX6_run_76 rfl k) ?_
          refine Xi.br (tgt := 94) (pc' := 81) ((2 : Int) = 0) (fun _ _ kt kf => x_if_eq dX6_run_78 rfl kt kf) (fun c => absurd c (by decide)) (fun _ => ?_)
          refine Xi.up (pc' := 83) (fun _ _ k => x_iload dX6_run_81 rfl k) ?_
          refine Xi.up (pc' := 84) (fun _ _ k => x_iconst dX6_run_83 (show inR 1 from ⟨by decide, by decide⟩) k) ?_
          refine Xi.br (tgt := 91) (pc' := 87) ((2 : Int) ≠ 1) (fun _ _ kt kf => x_icmp_ne dX6_run_84 rfl kt kf) (fun _ => ?_) (fun c => absurd (by decide) c)
          refine Xi.up (pc' := 93) (fun _ _ k => x_iload dX6_run_91 rfl k) ?_
          exact Xi.ret ⟨dX6_run_93, Or.inl rfl⟩ h
        · have h := h.2 c
          refine Xi.up (pc' := 65) (fun _ _ k => x_aload_n dX6_run_64 rfl rfl k) ?_
          refine Xi.up (pc' := 67) (fun _ _ k => x_aload dX6_run_65 rfl k) ?_
          obtain ⟨x11, M10, hc13, hK12, h⟩ := h
          refine Xi.up (pc' := 70) (st' := [zi x11]) (fun _ _ k => x_callVK (ci := 6) (as := [zr x2]) (st := []) hK8 k6_beginStatement lm6_130 dX6_run_67 rfl (by decide) (zs8 rfl) h0.1 ⟨_, _, rfl⟩ hc13 k) ?_
          refine Xi.up (pc' := 74) (fun _ _ k => x_goto dX6_run_70 rfl k) ?_
          refine Xi.up (pc' := 76) (L' := [some (zr o), none, some (zi a2), some (zi l3), some (zr x2), some (zi x11)]) (fun _ _ k => x_istore dX6_run_74 (by decide) rfl k) ?_
          refine Xi.up (pc' := 78) (fun _ _ k => x_iload dX6_run_76 rfl k) ?_
          refine Xi.br (tgt := 94) (pc' := 81) (x11 = 0) (fun _ _ kt kf => x_if_eq dX6_run_78 rfl kt kf) (fun c => ?_) (fun c => ?_)
          · have h := h.1 c
            obtain ⟨g14, h⟩ := h
            refine Xi.up (pc' := 97) (L' := [some (zr o), none, some (zi a2), some (zi (l3 + 1)), some (zr x2), some (zi x11)]) (fun _ _ k => x_iinc dX6_run_94 rfl g14 (by decide) rfl k) ?_
            refine Xi.up (pc' := 7) (fun _ _ k => x_goto dX6_run_97 rfl k) ?_
            exact Xi.up (fun _ _ k => x_less (L' := [some (zr o), none, some (zi a2), some (zi (l3 + 1)), none, none]) (⟨rfl, ⟨rfl, ⟨rfl, trivial⟩⟩⟩) k) h
          · have h := h.2 c
            refine Xi.up (pc' := 83) (fun _ _ k => x_iload dX6_run_81 rfl k) ?_
            refine Xi.up (pc' := 84) (fun _ _ k => x_iconst dX6_run_83 (show inR 1 from ⟨by decide, by decide⟩) k) ?_
            refine Xi.br (tgt := 91) (pc' := 87) (x11 ≠ 1) (fun _ _ kt kf => x_icmp_ne dX6_run_84 rfl kt kf) (fun c => ?_) (fun c => ?_)
            · have h := h.1 c
              refine Xi.up (pc' := 93) (fun _ _ k => x_iload dX6_run_91 rfl k) ?_
              exact Xi.ret ⟨dX6_run_93, Or.inl rfl⟩ h
            · have h := h.2 c
              refine Xi.up (pc' := 88) (fun _ _ k => x_iload_n dX6_run_87 rfl rfl k) ?_
              refine Xi.br (tgt := 94) (pc' := 91) (a2 = 0) (fun _ _ kt kf => x_if_eq dX6_run_88 rfl kt kf) (fun c => ?_) (fun c => ?_)
              · have h := h.1 c
                obtain ⟨g15, h⟩ := h
                refine Xi.up (pc' := 97) (L' := [some (zr o), none, some (zi a2), some (zi (l3 + 1)), some (zr x2), some (zi x11)]) (fun _ _ k => x_iinc dX6_run_94 rfl g15 (by decide) rfl k) ?_
                refine Xi.up (pc' := 7) (fun _ _ k => x_goto dX6_run_97 rfl k) ?_
                exact Xi.up (fun _ _ k => x_less (L' := [some (zr o), none, some (zi a2), some (zi (l3 + 1)), none, none]) (⟨rfl, ⟨rfl, ⟨rfl, trivial⟩⟩⟩) k) h
              · have h := h.2 c
                refine Xi.up (pc' := 93) (fun _ _ k => x_iload dX6_run_91 rfl k) ?_
                exact Xi.ret ⟨dX6_run_93, Or.inl rfl⟩ h
      · have h := h.2 c
        refine Xi.up (pc' := 47) (fun _ _ k => x_aload_n dX6_run_46 rfl rfl k) ?_
        refine Xi.up (pc' := 49) (fun _ _ k => x_aload dX6_run_47 rfl k) ?_
        obtain ⟨x17, M16, hc19, hK18, h⟩ := h
        refine Xi.up (pc' := 52) (st' := [zi x17]) (fun _ _ k => x_callVK (ci := 6) (as := [zr x2]) (st := []) hK3 k6_endPart lm6_123 dX6_run_49 rfl (by decide) (zs8 rfl) h0.1 ⟨_, _, rfl⟩ hc19 k) ?_
        refine Xi.up (pc' := 54) (L' := [some (zr o), none, some (zi a2), some (zi l3), some (zr x2), some (zi x17)]) (fun _ _ k => x_istore dX6_run_52 (by decide) rfl k) ?_
        refine Xi.up (pc' := 76) (fun _ _ k => x_goto dX6_run_54 rfl k) ?_
        refine Xi.up (pc' := 78) (fun _ _ k => x_iload dX6_run_76 rfl k) ?_
        refine Xi.br (tgt := 94) (pc' := 81) (x17 = 0) (fun _ _ kt kf => x_if_eq dX6_run_78 rfl kt kf) (fun c => ?_) (fun c => ?_)
        · have h := h.1 c
          obtain ⟨g20, h⟩ := h
          refine Xi.up (pc' := 97) (L' := [some (zr o), none, some (zi a2), some (zi (l3 + 1)), some (zr x2), some (zi x17)]) (fun _ _ k => x_iinc dX6_run_94 rfl g20 (by decide) rfl k) ?_
          refine Xi.up (pc' := 7) (fun _ _ k => x_goto dX6_run_97 rfl k) ?_
          exact Xi.up (fun _ _ k => x_less (L' := [some (zr o), none, some (zi a2), some (zi (l3 + 1)), none, none]) (⟨rfl, ⟨rfl, ⟨rfl, trivial⟩⟩⟩) k) h
        · have h := h.2 c
          refine Xi.up (pc' := 83) (fun _ _ k => x_iload dX6_run_81 rfl k) ?_
          refine Xi.up (pc' := 84) (fun _ _ k => x_iconst dX6_run_83 (show inR 1 from ⟨by decide, by decide⟩) k) ?_
          refine Xi.br (tgt := 91) (pc' := 87) (x17 ≠ 1) (fun _ _ kt kf => x_icmp_ne dX6_run_84 rfl kt kf) (fun c => ?_) (fun c => ?_)
          · have h := h.1 c
            refine Xi.up (pc' := 93) (fun _ _ k => x_iload dX6_run_91 rfl k) ?_
            exact Xi.ret ⟨dX6_run_93, Or.inl rfl⟩ h
          · have h := h.2 c
            refine Xi.up (pc' := 88) (fun _ _ k => x_iload_n dX6_run_87 rfl rfl k) ?_
            refine Xi.br (tgt := 94) (pc' := 91) (a2 = 0) (fun _ _ kt kf => x_if_eq dX6_run_88 rfl kt kf) (fun c => ?_) (fun c => ?_)
            · have h := h.1 c
              obtain ⟨g21, h⟩ := h
              refine Xi.up (pc' := 97) (L' := [some (zr o), none, some (zi a2), some (zi (l3 + 1)), some (zr x2), some (zi x17)]) (fun _ _ k => x_iinc dX6_run_94 rfl g21 (by decide) rfl k) ?_
              refine Xi.up (pc' := 7) (fun _ _ k => x_goto dX6_run_97 rfl k) ?_
              exact Xi.up (fun _ _ k => x_less (L' := [some (zr o), none, some (zi a2), some (zi (l3 + 1)), none, none]) (⟨rfl, ⟨rfl, ⟨rfl, trivial⟩⟩⟩) k) h
            · have h := h.2 c
              refine Xi.up (pc' := 93) (fun _ _ k => x_iload dX6_run_91 rfl k) ?_
              exact Xi.ret ⟨dX6_run_93, Or.inl rfl⟩ h
    · have h := h.2 c
      refine Xi.up (pc' := 27) (fun _ _ k => x_aload_n dX6_run_26 rfl rfl k) ?_
      refine Xi.up (pc' := 29) (fun _ _ k => x_aload dX6_run_27 rfl k) ?_
      obtain ⟨x23, M22, hc25, hK24, h⟩ := h
      refine Xi.up (pc' := 32) (st' := [zi x23]) (fun _ _ k => x_callVK (ci := 6) (as := [zr x2]) (st := []) hK3 k6_goBack lm6_116 dX6_run_29 rfl (by decide) (zs8 rfl) h0.1 ⟨_, _, rfl⟩ hc25 k) ?_
      refine Xi.up (pc' := 34) (L' := [some (zr o), none, some (zi a2), some (zi l3), some (zr x2), some (zi x23)]) (fun _ _ k => x_istore dX6_run_32 (by decide) rfl k) ?_
      refine Xi.up (pc' := 76) (fun _ _ k => x_goto dX6_run_34 rfl k) ?_
      refine Xi.up (pc' := 78) (fun _ _ k => x_iload dX6_run_76 rfl k) ?_
      refine Xi.br (tgt := 94) (pc' := 81) (x23 = 0) (fun _ _ kt kf => x_if_eq dX6_run_78 rfl kt kf) (fun c => ?_) (fun c => ?_)
      · have h := h.1 c
        obtain ⟨g26, h⟩ := h
        refine Xi.up (pc' := 97) (L' := [some (zr o), none, some (zi a2), some (zi (l3 + 1)), some (zr x2), some (zi x23)]) (fun _ _ k => x_iinc dX6_run_94 rfl g26 (by decide) rfl k) ?_
        refine Xi.up (pc' := 7) (fun _ _ k => x_goto dX6_run_97 rfl k) ?_
        exact Xi.up (fun _ _ k => x_less (L' := [some (zr o), none, some (zi a2), some (zi (l3 + 1)), none, none]) (⟨rfl, ⟨rfl, ⟨rfl, trivial⟩⟩⟩) k) h
      · have h := h.2 c
        refine Xi.up (pc' := 83) (fun _ _ k => x_iload dX6_run_81 rfl k) ?_
        refine Xi.up (pc' := 84) (fun _ _ k => x_iconst dX6_run_83 (show inR 1 from ⟨by decide, by decide⟩) k) ?_
        refine Xi.br (tgt := 91) (pc' := 87) (x23 ≠ 1) (fun _ _ kt kf => x_icmp_ne dX6_run_84 rfl kt kf) (fun c => ?_) (fun c => ?_)
        · have h := h.1 c
          refine Xi.up (pc' := 93) (fun _ _ k => x_iload dX6_run_91 rfl k) ?_
          exact Xi.ret ⟨dX6_run_93, Or.inl rfl⟩ h
        · have h := h.2 c
          refine Xi.up (pc' := 88) (fun _ _ k => x_iload_n dX6_run_87 rfl rfl k) ?_
          refine Xi.br (tgt := 94) (pc' := 91) (a2 = 0) (fun _ _ kt kf => x_if_eq dX6_run_88 rfl kt kf) (fun c => ?_) (fun c => ?_)
          · have h := h.1 c
            obtain ⟨g27, h⟩ := h
            refine Xi.up (pc' := 97) (L' := [some (zr o), none, some (zi a2), some (zi (l3 + 1)), some (zr x2), some (zi x23)]) (fun _ _ k => x_iinc dX6_run_94 rfl g27 (by decide) rfl k) ?_
            refine Xi.up (pc' := 7) (fun _ _ k => x_goto dX6_run_97 rfl k) ?_
            exact Xi.up (fun _ _ k => x_less (L' := [some (zr o), none, some (zi a2), some (zi (l3 + 1)), none, none]) (⟨rfl, ⟨rfl, ⟨rfl, trivial⟩⟩⟩) k) h
          · have h := h.2 c
            refine Xi.up (pc' := 93) (fun _ _ k => x_iload dX6_run_91 rfl k) ?_
            exact Xi.ret ⟨dX6_run_93, Or.inl rfl⟩ h
set_option maxHeartbeats 4000000 in
set_option maxRecDepth 20000 in
theorem B6_spend {d : Nat} {K M : ZMem} {Q : Int → ZMem → Prop} (o : Nat) (hK : KW K M) (h0 : SearchAt K o) (h : ((0 < (mI M o 13) → ((inR ((mI M o 13) - 1)) ∧ Cv d q6_tally [zr o, zi 2, zi 1] (sI M o 13 ((mI M o 13) - 1)) (fun M3 => KW K M3 ∧ Q 1 M3))) ∧ (¬ (0 < (mI M o 13)) → (Q 0 M)))) : Ci (d + 1) q6_spend [zr o] M Q := by
  refine Ci.of rfl rfl (Nat.le_of_ble_eq_true rfl) (fun w hw x e => by subst e; simp at hw) (L := [some (zr o)]) rfl ?_
  refine Xi.up (pc' := 1) (fun _ _ k => x_aload_n dX6_spend_0 rfl rfl k) ?_
  refine Xi.up (pc' := 4) (fun _ _ k => x_getIK hK lf6_112 rfl dX6_spend_1 h0.1 k) ?_
  refine Xi.br (tgt := 9) (pc' := 7) (0 < (mI M o 13)) (fun _ _ kt kf => x_if_gt dX6_spend_4 rfl kt kf) (fun c => ?_) (fun c => ?_)
  · have h := h.1 c
    refine Xi.up (pc' := 10) (fun _ _ k => x_aload_n dX6_spend_9 rfl rfl k) ?_
    refine Xi.up (pc' := 11) (fun _ _ k => x_dupR dX6_spend_10 k) ?_
    refine Xi.up (pc' := 14) (fun _ _ k => x_getIK hK lf6_112 rfl dX6_spend_11 h0.1 k) ?_
    refine Xi.up (pc' := 15) (fun _ _ k => x_iconst dX6_spend_14 (show inR 1 from ⟨by decide, by decide⟩) k) ?_
    obtain ⟨g1, h⟩ := h
    refine Xi.up (pc' := 16) (fun _ _ k => x_isub dX6_spend_15 g1 k) ?_
    refine Xi.up (pc' := 19) (fun _ _ k => x_putIK hK lf6_112 rfl rfl (Or.inl rfl) dX6_spend_16 h0.1 k) ?_
    have hK2 := KW.sI hK o 13 ((mI M o 13) - 1)
    refine Xi.up (pc' := 20) (fun _ _ k => x_aload_n dX6_spend_19 rfl rfl k) ?_
    refine Xi.up (pc' := 21) (fun _ _ k => x_iconst dX6_spend_20 (show inR 2 from ⟨by decide, by decide⟩) k) ?_
    refine Xi.up (pc' := 22) (fun _ _ k => x_iconst dX6_spend_21 (show inR 1 from ⟨by decide, by decide⟩) k) ?_
    obtain ⟨M3, hc5, hK4, h⟩ := h
    refine Xi.up (pc' := 25) (st' := []) (fun _ _ k => x_callVK (ci := 6) (as := [zi 2, zi 1]) (st := []) hK2 k6_tally lm6_133 dX6_spend_22 rfl (by decide) (zs8 rfl) h0.1 ⟨_, _, rfl⟩ hc5 k) ?_
    refine Xi.up (pc' := 26) (fun _ _ k => x_iconst dX6_spend_25 (show inR 1 from ⟨by decide, by decide⟩) k) ?_
    exact Xi.ret ⟨dX6_spend_26, Or.inr ⟨rfl, Or.inr rfl⟩⟩ h
  · have h := h.2 c
    refine Xi.up (pc' := 8) (fun _ _ k => x_iconst dX6_spend_7 (show inR 0 from ⟨by decide, by decide⟩) k) ?_
    exact Xi.ret ⟨dX6_spend_8, Or.inr ⟨rfl, Or.inl rfl⟩⟩ h
set_option maxHeartbeats 4000000 in
set_option maxRecDepth 20000 in
theorem B6_finish {d : Nat} {K M : ZMem} {Q : Int → ZMem → Prop} (o : Nat) (a1 : Int) (hK : KW K M) (h0 : SearchAt K o) (h : Q a1 (sI M o 7 2)) : Ci d q6_finish [zr o, zi a1] M Q := by
  refine Ci.of rfl rfl (Nat.le_of_ble_eq_true rfl) (fun w hw x e => by subst e; simp at hw) (L := [some (zr o), some (zi a1)]) rfl ?_
  refine Xi.up (pc' := 1) (fun _ _ k => x_aload_n dX6_finish_0 rfl rfl k) ?_
  refine Xi.up (pc' := 2) (fun _ _ k => x_iconst dX6_finish_1 (show inR 2 from ⟨by decide, by decide⟩) k) ?_
  refine Xi.up (pc' := 5) (fun _ _ k => x_putIK hK lf6_57 rfl rfl (Or.inl rfl) dX6_finish_2 h0.1 k) ?_
  have hK1 := KW.sI hK o 7 2
  refine Xi.up (pc' := 6) (fun _ _ k => x_iload_n dX6_finish_5 rfl rfl k) ?_
  exact Xi.ret ⟨dX6_finish_6, Or.inl rfl⟩ h
set_option maxHeartbeats 4000000 in
set_option maxRecDepth 20000 in
theorem B6_endWay {d : Nat} {K M : ZMem} {Q : Int → ZMem → Prop} (o : Nat) (hK : KW K M) (h0 : SearchAt K o) (h : Q 0 (sI M o 12 0)) : Ci d q6_endWay [zr o] M Q := by
  refine Ci.of rfl rfl (Nat.le_of_ble_eq_true rfl) (fun w hw x e => by subst e; simp at hw) (L := [some (zr o)]) rfl ?_
  refine Xi.up (pc' := 1) (fun _ _ k => x_aload_n dX6_endWay_0 rfl rfl k) ?_
  refine Xi.up (pc' := 2) (fun _ _ k => x_iconst dX6_endWay_1 (show inR 0 from ⟨by decide, by decide⟩) k) ?_
  refine Xi.up (pc' := 5) (fun _ _ k => x_putIK hK lf6_77 rfl rfl (Or.inr (Or.inl rfl)) dX6_endWay_2 h0.1 k) ?_
  have hK1 := KW.sI hK o 12 0
  refine Xi.up (pc' := 6) (fun _ _ k => x_iconst dX6_endWay_5 (show inR 0 from ⟨by decide, by decide⟩) k) ?_
  exact Xi.ret ⟨dX6_endWay_6, Or.inl rfl⟩ h
set_option maxHeartbeats 4000000 in
set_option maxRecDepth 20000 in
theorem B6_currentWay {d : Nat} {K M : ZMem} {Q : Nat → ZMem → Prop} (o : Nat) (hK : KW K M) (h0 : SearchAt K o) (h : (((mI M o 11) < 0 → (Q (mR M (o + 396) 0) M)) ∧ (¬ ((mI M o 11) < 0) → ((7 ≤ (mI M o 11) → (Q (mR M (o + 396) 0) M)) ∧ (¬ (7 ≤ (mI M o 11)) → ((0 ≤ (mI M o 11)) ∧ ((mI M o 11) < 7) ∧ Q (mR M (o + 396) (mI M o 11).toNat) M)))))) : Cq d q6_currentWay [zr o] M Q := by
  refine Cq.of rfl rfl (Nat.le_of_ble_eq_true rfl) (fun w hw x e => by subst e; simp at hw) (L := [some (zr o)]) rfl ?_
  refine Xq.up (pc' := 1) (fun _ _ k => x_aload_n dX6_currentWay_0 rfl rfl k) ?_
  refine Xq.up (pc' := 4) (fun _ _ k => x_getRK hK lf6_37 rfl dX6_currentWay_1 h0.1 h0.2.2.2.2.2.1 k) ?_
  refine Xq.up (pc' := 5) (fun _ _ k => x_aload_n dX6_currentWay_4 rfl rfl k) ?_
  refine Xq.up (pc' := 8) (fun _ _ k => x_getIK hK lf6_74 rfl dX6_currentWay_5 h0.1 k) ?_
  refine Xq.br (tgt := 30) (pc' := 11) ((mI M o 11) < 0) (fun _ _ kt kf => x_if_lt dX6_currentWay_8 rfl kt kf) (fun c => ?_) (fun c => ?_)
  · have h := h.1 c
    refine Xq.up (pc' := 31) (fun _ _ k => x_iconst dX6_currentWay_30 (show inR 0 from ⟨by decide, by decide⟩) k) ?_
    refine Xq.up (pc' := 32) (fun _ _ k => x_aaloadK hK dX6_currentWay_31 h0.2.2.2.2.2.2.2.2.1 (by decide) (by decide) (by decide) k) ?_
    exact Xq.ret ⟨dX6_currentWay_32, _, rfl⟩ h
  · have h := h.2 c
    refine Xq.up (pc' := 12) (fun _ _ k => x_aload_n dX6_currentWay_11 rfl rfl k) ?_
    refine Xq.up (pc' := 15) (fun _ _ k => x_getIK hK lf6_74 rfl dX6_currentWay_12 h0.1 k) ?_
    refine Xq.up (pc' := 16) (fun _ _ k => x_aload_n dX6_currentWay_15 rfl rfl k) ?_
    refine Xq.up (pc' := 19) (fun _ _ k => x_getRK hK lf6_37 rfl dX6_currentWay_16 h0.1 h0.2.2.2.2.2.1 k) ?_
    refine Xq.up (pc' := 20) (fun _ _ k => x_alenK hK dX6_currentWay_19 h0.2.2.2.2.2.2.2.2.1 (by decide) (by decide) k) ?_
    refine Xq.br (tgt := 30) (pc' := 23) (7 ≤ (mI M o 11)) (fun _ _ kt kf => x_icmp_ge dX6_currentWay_20 rfl kt kf) (fun c => ?_) (fun c => ?_)
    · have h := h.1 c
      refine Xq.up (pc' := 31) (fun _ _ k => x_iconst dX6_currentWay_30 (show inR 0 from ⟨by decide, by decide⟩) k) ?_
      refine Xq.up (pc' := 32) (fun _ _ k => x_aaloadK hK dX6_currentWay_31 h0.2.2.2.2.2.2.2.2.1 (by decide) (by decide) (by decide) k) ?_
      exact Xq.ret ⟨dX6_currentWay_32, _, rfl⟩ h
    · have h := h.2 c
      refine Xq.up (pc' := 24) (fun _ _ k => x_aload_n dX6_currentWay_23 rfl rfl k) ?_
      refine Xq.up (pc' := 27) (fun _ _ k => x_getIK hK lf6_74 rfl dX6_currentWay_24 h0.1 k) ?_
      refine Xq.up (pc' := 31) (fun _ _ k => x_goto dX6_currentWay_27 rfl k) ?_
      obtain ⟨g5, h⟩ := h
      obtain ⟨g6, h⟩ := h
      refine Xq.up (pc' := 32) (fun _ _ k => x_aaloadK hK dX6_currentWay_31 h0.2.2.2.2.2.2.2.2.1 (by decide) g5 g6 k) ?_
      exact Xq.ret ⟨dX6_currentWay_32, _, rfl⟩ h
set_option maxHeartbeats 4000000 in
set_option maxRecDepth 20000 in
theorem B6_goBack {d : Nat} {K M : ZMem} {Q : Int → ZMem → Prop} (o : Nat) (a1 : Nat) (hK : KW K M) (h0 : SearchAt K o) (h1 : WayAt K a1) (h : (((mI M o 11) ≤ 0 → (((mI M (o + 20) 1) ≠ 0 → (Ci d q6_spend [zr o] M (fun x2 M1 => KW K M1 ∧ ((x2 ≠ 0 → (Ci d q6_chosen [zr o] M1 (fun x6 M5 => KW K M5 ∧ Cq d q3_openAt [zr (o + 20), zi x6] M5 (fun x10 M9 => KW K M9 ∧ ((x10 = 0 → (Cv d q6_take [zr o, zr (o + 20), zi x6] M9 (fun M13 => KW K M13 ∧ Q 0 M13))) ∧ (¬ (x10 = 0) → (Cv d q6_tally [zr o, zi 6, zi 1] M9 (fun M16 => KW K M16 ∧ (PointAt K x10) ∧ Ci d q8_unlikeValues [zr a1, zr (x10 + 1)] M16 (fun x21 M20 => KW K M20 ∧ Cv d q6_tally [zr o, zi 8, zi x21] M20 (fun M24 => KW K M24 ∧ Cv d q6_take [zr o, zr (o + 20), zi x6] M24 (fun M27 => KW K M27 ∧ Q 0 M27))))))))))) ∧ (¬ (x2 ≠ 0) → (Q 2 M1)))))) ∧ (¬ ((mI M (o + 20) 1) ≠ 0) → (Ci d q6_goDeeper [zr o] M (fun x31 M30 => KW K M30 ∧ Q x31 M30))))) ∧ (¬ ((mI M o 11) ≤ 0) → (Ci d q6_goBackInNot [zr o] M (fun x35 M34 => KW K M34 ∧ Q x35 M34))))) : Ci (d + 1) q6_goBack [zr o, zr a1] M Q := by
  refine Ci.of rfl rfl (Nat.le_of_ble_eq_true rfl) (fun w hw x e => by subst e; simp at hw) (L := [some (zr o), some (zr a1), none, none]) rfl ?_
  refine Xi.up (pc' := 1) (fun _ _ k => x_aload_n dX6_goBack_0 rfl rfl k) ?_
  refine Xi.up (pc' := 4) (fun _ _ k => x_getIK hK lf6_74 rfl dX6_goBack_1 h0.1 k) ?_
  refine Xi.br (tgt := 12) (pc' := 7) ((mI M o 11) ≤ 0) (fun _ _ kt kf => x_if_le dX6_goBack_4 rfl kt kf) (fun c => ?_) (fun c => ?_)
  · have h := h.1 c
    refine Xi.up (pc' := 13) (fun _ _ k => x_aload_n dX6_goBack_12 rfl rfl k) ?_
    refine Xi.up (pc' := 16) (fun _ _ k => x_getRK hK lf6_28 rfl dX6_goBack_13 h0.1 h0.2.2.2.1 k) ?_
    refine Xi.up (pc' := 19) (fun _ _ k => x_getIK hK lf6_63 rfl dX6_goBack_16 h0.2.2.2.2.2.2.2.2.2.2.2.2.2.1.1 k) ?_
    refine Xi.br (tgt := 27) (pc' := 22) ((mI M (o + 20) 1) ≠ 0) (fun _ _ kt kf => x_if_ne dX6_goBack_19 rfl kt kf) (fun c => ?_) (fun c => ?_)
    · have h := h.1 c
      refine Xi.up (pc' := 28) (fun _ _ k => x_aload_n dX6_goBack_27 rfl rfl k) ?_
      obtain ⟨x2, M1, hc4, hK3, h⟩ := h
      refine Xi.up (pc' := 31) (st' := [zi x2]) (fun _ _ k => x_callVK (ci := 6) (as := []) (st := []) hK k6_spend lm6_126 dX6_goBack_28 rfl (by decide) (zs8 rfl) h0.1 ⟨_, _, rfl⟩ hc4 k) ?_
      refine Xi.br (tgt := 36) (pc' := 34) (x2 ≠ 0) (fun _ _ kt kf => x_if_ne dX6_goBack_31 rfl kt kf) (fun c => ?_) (fun c => ?_)
      · have h := h.1 c
        refine Xi.up (pc' := 37) (fun _ _ k => x_aload_n dX6_goBack_36 rfl rfl k) ?_
        obtain ⟨x6, M5, hc8, hK7, h⟩ := h
        refine Xi.up (pc' := 40) (st' := [zi x6]) (fun _ _ k => x_callVK (ci := 6) (as := []) (st := []) hK3 k6_chosen lm6_144 dX6_goBack_37 rfl (by decide) (zs8 rfl) h0.1 ⟨_, _, rfl⟩ hc8 k) ?_
        refine Xi.up (pc' := 41) (L' := [some (zr o), some (zr a1), some (zi x6), none]) (fun _ _ k => x_istore_n dX6_goBack_40 rfl (by decide) rfl k) ?_
        refine Xi.up (pc' := 42) (fun _ _ k => x_aload_n dX6_goBack_41 rfl rfl k) ?_
        refine Xi.up (pc' := 45) (fun _ _ k => x_getRK hK7 lf6_28 rfl dX6_goBack_42 h0.1 h0.2.2.2.1 k) ?_
        refine Xi.up (pc' := 46) (fun _ _ k => x_iload_n dX6_goBack_45 rfl rfl k) ?_
        obtain ⟨x10, M9, hc12, hK11, h⟩ := h
        refine Xi.up (pc' := 49) (st' := [zr x10]) (fun _ _ k => x_callVK (ci := 3) (as := [zi x6]) (st := []) hK7 k3_openAt lm6_102 dX6_goBack_46 rfl (by decide) (zs8 rfl) h0.2.2.2.2.2.2.2.2.2.2.2.2.2.1.1 ⟨_, _, rfl⟩ hc12 k) ?_
        refine Xi.up (pc' := 50) (L' := [some (zr o), some (zr a1), some (zi x6), some (zr x10)]) (fun _ _ k => x_astore_n dX6_goBack_49 rfl (by decide) rfl k) ?_
        refine Xi.up (pc' := 51) (fun _ _ k => x_aload_n dX6_goBack_50 rfl rfl k) ?_
        refine Xi.br (tgt := 75) (pc' := 54) (x10 = 0) (fun _ _ kt kf => x_ifnull dX6_goBack_51 rfl kt kf) (fun c => ?_) (fun c => ?_)
        · have h := h.1 c
          refine Xi.up (pc' := 76) (fun _ _ k => x_aload_n dX6_goBack_75 rfl rfl k) ?_
          refine Xi.up (pc' := 77) (fun _ _ k => x_aload_n dX6_goBack_76 rfl rfl k) ?_
          refine Xi.up (pc' := 80) (fun _ _ k => x_getRK hK11 lf6_28 rfl dX6_goBack_77 h0.1 h0.2.2.2.1 k) ?_
          refine Xi.up (pc' := 81) (fun _ _ k => x_iload_n dX6_goBack_80 rfl rfl k) ?_
          obtain ⟨M13, hc15, hK14, h⟩ := h
          refine Xi.up (pc' := 84) (st' := []) (fun _ _ k => x_callVK (ci := 6) (as := [zr (o + 20), zi x6]) (st := []) hK11 k6_take lm6_154 dX6_goBack_81 rfl (by decide) (zs8 rfl) h0.1 ⟨_, _, rfl⟩ hc15 k) ?_
          refine Xi.up (pc' := 85) (fun _ _ k => x_iconst dX6_goBack_84 (show inR 0 from ⟨by decide, by decide⟩) k) ?_
          exact Xi.ret ⟨dX6_goBack_85, Or.inl rfl⟩ h
        · have h := h.2 c
          refine Xi.up (pc' := 55) (fun _ _ k => x_aload_n dX6_goBack_54 rfl rfl k) ?_
          refine Xi.up (pc' := 57) (fun _ _ k => x_bipush dX6_goBack_55 (show inR 6 from ⟨by decide, by decide⟩) (by decide) k) ?_
          refine Xi.up (pc' := 58) (fun _ _ k => x_iconst dX6_goBack_57 (show inR 1 from ⟨by decide, by decide⟩) k) ?_
          obtain ⟨M16, hc18, hK17, h⟩ := h
          refine Xi.up (pc' := 61) (st' := []) (fun _ _ k => x_callVK (ci := 6) (as := [zi 6, zi 1]) (st := []) hK11 k6_tally lm6_133 dX6_goBack_58 rfl (by decide) (zs8 rfl) h0.1 ⟨_, _, rfl⟩ hc18 k) ?_
          refine Xi.up (pc' := 62) (fun _ _ k => x_aload_n dX6_goBack_61 rfl rfl k) ?_
          refine Xi.up (pc' := 64) (fun _ _ k => x_bipush dX6_goBack_62 (show inR 8 from ⟨by decide, by decide⟩) (by decide) k) ?_
          refine Xi.up (pc' := 65) (fun _ _ k => x_aload_n dX6_goBack_64 rfl rfl k) ?_
          refine Xi.up (pc' := 66) (fun _ _ k => x_aload_n dX6_goBack_65 rfl rfl k) ?_
          obtain ⟨g19, h⟩ := h
          refine Xi.up (pc' := 69) (L' := [some (zr o), some (zr a1), some (zi x6), some (zr x10)]) (fun _ _ k => x_getRK hK17 lf6_147 rfl dX6_goBack_66 g19.1 g19.2.1 k) ?_
          obtain ⟨x21, M20, hc23, hK22, h⟩ := h
          refine Xi.up (pc' := 72) (st' := [zi x21, zi 8, zr o]) (fun _ _ k => x_callVK (ci := 8) (as := [zr (x10 + 1)]) (st := [zi 8, zr o]) hK17 k8_unlikeValues lm6_151 dX6_goBack_69 rfl (by decide) (zs8 rfl) h1.1 ⟨_, _, rfl⟩ hc23 k) ?_
          obtain ⟨M24, hc26, hK25, h⟩ := h
          refine Xi.up (pc' := 75) (st' := []) (fun _ _ k => x_callVK (ci := 6) (as := [zi 8, zi x21]) (st := []) hK22 k6_tally lm6_133 dX6_goBack_72 rfl (by decide) (zs8 rfl) h0.1 ⟨_, _, rfl⟩ hc26 k) ?_
          refine Xi.up (pc' := 76) (fun _ _ k => x_aload_n dX6_goBack_75 rfl rfl k) ?_
          refine Xi.up (pc' := 77) (fun _ _ k => x_aload_n dX6_goBack_76 rfl rfl k) ?_
          refine Xi.up (pc' := 80) (fun _ _ k => x_getRK hK25 lf6_28 rfl dX6_goBack_77 h0.1 h0.2.2.2.1 k) ?_
          refine Xi.up (pc' := 81) (fun _ _ k => x_iload_n dX6_goBack_80 rfl rfl k) ?_
          obtain ⟨M27, hc29, hK28, h⟩ := h
          refine Xi.up (pc' := 84) (st' := []) (fun _ _ k => x_callVK (ci := 6) (as := [zr (o + 20), zi x6]) (st := []) hK25 k6_take lm6_154 dX6_goBack_81 rfl (by decide) (zs8 rfl) h0.1 ⟨_, _, rfl⟩ hc29 k) ?_
          refine Xi.up (pc' := 85) (fun _ _ k => x_iconst dX6_goBack_84 (show inR 0 from ⟨by decide, by decide⟩) k) ?_
          exact Xi.ret ⟨dX6_goBack_85, Or.inl rfl⟩ h
      · have h := h.2 c
        refine Xi.up (pc' := 35) (fun _ _ k => x_iconst dX6_goBack_34 (show inR 2 from ⟨by decide, by decide⟩) k) ?_
        exact Xi.ret ⟨dX6_goBack_35, Or.inl rfl⟩ h
    · have h := h.2 c
      refine Xi.up (pc' := 23) (fun _ _ k => x_aload_n dX6_goBack_22 rfl rfl k) ?_
      obtain ⟨x31, M30, hc33, hK32, h⟩ := h
      refine Xi.up (pc' := 26) (st' := [zi x31]) (fun _ _ k => x_callVK (ci := 6) (as := []) (st := []) hK k6_goDeeper lm6_141 dX6_goBack_23 rfl (by decide) (zs8 rfl) h0.1 ⟨_, _, rfl⟩ hc33 k) ?_
      exact Xi.ret ⟨dX6_goBack_26, Or.inl rfl⟩ h
  · have h := h.2 c
    refine Xi.up (pc' := 8) (fun _ _ k => x_aload_n dX6_goBack_7 rfl rfl k) ?_
    obtain ⟨x35, M34, hc37, hK36, h⟩ := h
    refine Xi.up (pc' := 11) (st' := [zi x35]) (fun _ _ k => x_callVK (ci := 6) (as := []) (st := []) hK k6_goBackInNot lm6_137 dX6_goBack_8 rfl (by decide) (zs8 rfl) h0.1 ⟨_, _, rfl⟩ hc37 k) ?_
    exact Xi.ret ⟨dX6_goBack_11, Or.inl rfl⟩ h
set_option maxHeartbeats 4000000 in
set_option maxRecDepth 20000 in
theorem B6_goBackInNot {d : Nat} {K M : ZMem} {Q : Int → ZMem → Prop} (o : Nat) (hK : KW K M) (h0 : SearchAt K o) (h : Ci d q6_baseOfNot [zr o] M (fun x2 M1 => KW K M1 ∧ ((x2 < (mI M (o + 208) 1) → (Ci d q6_spend [zr o] M1 (fun x6 M5 => KW K M5 ∧ ((x6 ≠ 0 → ((inR ((mI M5 (o + 208) 1) - 1)) ∧ Cv d q6_take [zr o, zr (o + 208), zi ((mI M5 (o + 208) 1) - 1)] M5 (fun M10 => KW K M10 ∧ Q 0 M10))) ∧ (¬ (x6 ≠ 0) → (Q 2 M5)))))) ∧ (¬ (x2 < (mI M (o + 208) 1)) → ((inR ((mI M1 o 11) - 1)) ∧ Cq d q6_currentWay [zr o] (sI (sI M1 o 11 ((mI M1 o 11) - 1)) o 12 1) (fun x17 M16 => KW K M16 ∧ (WayAt K x17) ∧ Ci d q4_behind [zr (o + 1), zi (mI M16 x17 3)] M16 (fun x22 M21 => KW K M21 ∧ Q 0 (sI M21 x17 3 x22)))))))) : Ci (d + 1) q6_goBackInNot [zr o] M Q := by
  refine Ci.of rfl rfl (Nat.le_of_ble_eq_true rfl) (fun w hw x e => by subst e; simp at hw) (L := [some (zr o), none]) rfl ?_
  refine Xi.up (pc' := 1) (fun _ _ k => x_aload_n dX6_goBackInNot_0 rfl rfl k) ?_
  refine Xi.up (pc' := 4) (fun _ _ k => x_getRK hK lf6_32 rfl dX6_goBackInNot_1 h0.1 h0.2.2.2.2.1 k) ?_
  refine Xi.up (pc' := 7) (fun _ _ k => x_getIK hK lf6_63 rfl dX6_goBackInNot_4 h0.2.2.2.2.2.2.2.2.2.2.2.2.2.2.1.1 k) ?_
  refine Xi.up (pc' := 8) (fun _ _ k => x_aload_n dX6_goBackInNot_7 rfl rfl k) ?_
  obtain ⟨x2, M1, hc4, hK3, h⟩ := h
  refine Xi.up (pc' := 11) (st' := [zi x2, zi (mI M (o + 208) 1)]) (fun _ _ k => x_callVK (ci := 6) (as := []) (st := [zi (mI M (o + 208) 1)]) hK k6_baseOfNot lm6_158 dX6_goBackInNot_8 rfl (by decide) (zs8 rfl) h0.1 ⟨_, _, rfl⟩ hc4 k) ?_
  refine Xi.br (tgt := 51) (pc' := 14) (x2 < (mI M (o + 208) 1)) (fun _ _ kt kf => x_icmp_gt dX6_goBackInNot_11 rfl kt kf) (fun c => ?_) (fun c => ?_)
  · have h := h.1 c
    refine Xi.up (pc' := 52) (fun _ _ k => x_aload_n dX6_goBackInNot_51 rfl rfl k) ?_
    obtain ⟨x6, M5, hc8, hK7, h⟩ := h
    refine Xi.up (pc' := 55) (st' := [zi x6]) (fun _ _ k => x_callVK (ci := 6) (as := []) (st := []) hK3 k6_spend lm6_126 dX6_goBackInNot_52 rfl (by decide) (zs8 rfl) h0.1 ⟨_, _, rfl⟩ hc8 k) ?_
    refine Xi.br (tgt := 60) (pc' := 58) (x6 ≠ 0) (fun _ _ kt kf => x_if_ne dX6_goBackInNot_55 rfl kt kf) (fun c => ?_) (fun c => ?_)
    · have h := h.1 c
      refine Xi.up (pc' := 61) (fun _ _ k => x_aload_n dX6_goBackInNot_60 rfl rfl k) ?_
      refine Xi.up (pc' := 62) (fun _ _ k => x_aload_n dX6_goBackInNot_61 rfl rfl k) ?_
      refine Xi.up (pc' := 65) (fun _ _ k => x_getRK hK7 lf6_32 rfl dX6_goBackInNot_62 h0.1 h0.2.2.2.2.1 k) ?_
      refine Xi.up (pc' := 66) (fun _ _ k => x_aload_n dX6_goBackInNot_65 rfl rfl k) ?_
      refine Xi.up (pc' := 69) (fun _ _ k => x_getRK hK7 lf6_32 rfl dX6_goBackInNot_66 h0.1 h0.2.2.2.2.1 k) ?_
      refine Xi.up (pc' := 72) (fun _ _ k => x_getIK hK7 lf6_63 rfl dX6_goBackInNot_69 h0.2.2.2.2.2.2.2.2.2.2.2.2.2.2.1.1 k) ?_
      refine Xi.up (pc' := 73) (fun _ _ k => x_iconst dX6_goBackInNot_72 (show inR 1 from ⟨by decide, by decide⟩) k) ?_
      obtain ⟨g9, h⟩ := h
      refine Xi.up (pc' := 74) (fun _ _ k => x_isub dX6_goBackInNot_73 g9 k) ?_
      obtain ⟨M10, hc12, hK11, h⟩ := h
      refine Xi.up (pc' := 77) (st' := []) (fun _ _ k => x_callVK (ci := 6) (as := [zr (o + 208), zi ((mI M5 (o + 208) 1) - 1)]) (st := []) hK7 k6_take lm6_154 dX6_goBackInNot_74 rfl (by decide) (zs8 rfl) h0.1 ⟨_, _, rfl⟩ hc12 k) ?_
      refine Xi.up (pc' := 78) (fun _ _ k => x_iconst dX6_goBackInNot_77 (show inR 0 from ⟨by decide, by decide⟩) k) ?_
      exact Xi.ret ⟨dX6_goBackInNot_78, Or.inl rfl⟩ h
    · have h := h.2 c
      refine Xi.up (pc' := 59) (fun _ _ k => x_iconst dX6_goBackInNot_58 (show inR 2 from ⟨by decide, by decide⟩) k) ?_
      exact Xi.ret ⟨dX6_goBackInNot_59, Or.inl rfl⟩ h
  · have h := h.2 c
    refine Xi.up (pc' := 15) (fun _ _ k => x_aload_n dX6_goBackInNot_14 rfl rfl k) ?_
    refine Xi.up (pc' := 16) (fun _ _ k => x_dupR dX6_goBackInNot_15 k) ?_
    refine Xi.up (pc' := 19) (fun _ _ k => x_getIK hK3 lf6_74 rfl dX6_goBackInNot_16 h0.1 k) ?_
    refine Xi.up (pc' := 20) (fun _ _ k => x_iconst dX6_goBackInNot_19 (show inR 1 from ⟨by decide, by decide⟩) k) ?_
    obtain ⟨g13, h⟩ := h
    refine Xi.up (pc' := 21) (fun _ _ k => x_isub dX6_goBackInNot_20 g13 k) ?_
    refine Xi.up (pc' := 24) (fun _ _ k => x_putIK hK3 lf6_74 rfl rfl (Or.inl rfl) dX6_goBackInNot_21 h0.1 k) ?_
    have hK14 := KW.sI hK3 o 11 ((mI M1 o 11) - 1)
    refine Xi.up (pc' := 25) (fun _ _ k => x_aload_n dX6_goBackInNot_24 rfl rfl k) ?_
    refine Xi.up (pc' := 26) (fun _ _ k => x_iconst dX6_goBackInNot_25 (show inR 1 from ⟨by decide, by decide⟩) k) ?_
    refine Xi.up (pc' := 29) (fun _ _ k => x_putIK hK14 lf6_77 rfl rfl (Or.inr (Or.inr rfl)) dX6_goBackInNot_26 h0.1 k) ?_
    have hK15 := KW.sI hK14 o 12 1
    refine Xi.up (pc' := 30) (fun _ _ k => x_aload_n dX6_goBackInNot_29 rfl rfl k) ?_
    obtain ⟨x17, M16, hc19, hK18, h⟩ := h
    refine Xi.up (pc' := 33) (st' := [zr x17]) (fun _ _ k => x_callVK (ci := 6) (as := []) (st := []) hK15 k6_currentWay lm6_80 dX6_goBackInNot_30 rfl (by decide) (zs8 rfl) h0.1 ⟨_, _, rfl⟩ hc19 k) ?_
    refine Xi.up (pc' := 34) (L' := [some (zr o), some (zr x17)]) (fun _ _ k => x_astore_n dX6_goBackInNot_33 rfl (by decide) rfl k) ?_
    refine Xi.up (pc' := 35) (fun _ _ k => x_aload_n dX6_goBackInNot_34 rfl rfl k) ?_
    refine Xi.up (pc' := 36) (fun _ _ k => x_aload_n dX6_goBackInNot_35 rfl rfl k) ?_
    refine Xi.up (pc' := 39) (fun _ _ k => x_getRK hK18 lf6_12 rfl dX6_goBackInNot_36 h0.1 h0.2.1 k) ?_
    refine Xi.up (pc' := 40) (fun _ _ k => x_aload_n dX6_goBackInNot_39 rfl rfl k) ?_
    obtain ⟨g20, h⟩ := h
    refine Xi.up (pc' := 43) (L' := [some (zr o), some (zr x17)]) (fun _ _ k => x_getIK hK18 lf6_120 rfl dX6_goBackInNot_40 g20.1 k) ?_
    obtain ⟨x22, M21, hc24, hK23, h⟩ := h
    refine Xi.up (pc' := 46) (st' := [zi x22, zr x17]) (fun _ _ k => x_callVK (ci := 4) (as := [zi (mI M16 x17 3)]) (st := [zr x17]) hK18 k4_behind lm6_161 dX6_goBackInNot_43 rfl (by decide) (zs8 rfl) h0.2.2.2.2.2.2.2.2.2.2.2.1.1 ⟨_, _, rfl⟩ hc24 k) ?_
    refine Xi.up (pc' := 49) (fun _ _ k => x_putIK hK23 lf6_120 rfl rfl (Or.inl rfl) dX6_goBackInNot_46 g20.1 k) ?_
    have hK25 := KW.sI hK23 x17 3 x22
    refine Xi.up (pc' := 50) (fun _ _ k => x_iconst dX6_goBackInNot_49 (show inR 0 from ⟨by decide, by decide⟩) k) ?_
    exact Xi.ret ⟨dX6_goBackInNot_50, Or.inl rfl⟩ h
set_option maxHeartbeats 4000000 in
set_option maxRecDepth 20000 in
theorem B6_baseOfNot {d : Nat} {K M : ZMem} {Q : Int → ZMem → Prop} (o : Nat) (hK : KW K M) (h0 : SearchAt K o) (h : (((mI M o 11) < 0 → (Q 0 M)) ∧ (¬ ((mI M o 11) < 0) → ((7 ≤ (mI M o 11) → (Q 0 M)) ∧ (¬ (7 ≤ (mI M o 11)) → ((0 ≤ (mI M o 11)) ∧ ((mI M o 11) < 7) ∧ Q (mI M (o + 425) (mI M o 11).toNat) M)))))) : Ci d q6_baseOfNot [zr o] M Q := by
  refine Ci.of rfl rfl (Nat.le_of_ble_eq_true rfl) (fun w hw x e => by subst e; simp at hw) (L := [some (zr o)]) rfl ?_
  refine Xi.up (pc' := 1) (fun _ _ k => x_aload_n dX6_baseOfNot_0 rfl rfl k) ?_
  refine Xi.up (pc' := 4) (fun _ _ k => x_getIK hK lf6_74 rfl dX6_baseOfNot_1 h0.1 k) ?_
  refine Xi.br (tgt := 31) (pc' := 7) ((mI M o 11) < 0) (fun _ _ kt kf => x_if_lt dX6_baseOfNot_4 rfl kt kf) (fun c => ?_) (fun c => ?_)
  · have h := h.1 c
    refine Xi.up (pc' := 32) (fun _ _ k => x_iconst dX6_baseOfNot_31 (show inR 0 from ⟨by decide, by decide⟩) k) ?_
    exact Xi.ret ⟨dX6_baseOfNot_32, Or.inl rfl⟩ h
  · have h := h.2 c
    refine Xi.up (pc' := 8) (fun _ _ k => x_aload_n dX6_baseOfNot_7 rfl rfl k) ?_
    refine Xi.up (pc' := 11) (fun _ _ k => x_getIK hK lf6_74 rfl dX6_baseOfNot_8 h0.1 k) ?_
    refine Xi.up (pc' := 12) (fun _ _ k => x_aload_n dX6_baseOfNot_11 rfl rfl k) ?_
    refine Xi.up (pc' := 15) (fun _ _ k => x_getRK hK lf6_42 rfl dX6_baseOfNot_12 h0.1 h0.2.2.2.2.2.2.1 k) ?_
    refine Xi.up (pc' := 16) (fun _ _ k => x_alenK hK dX6_baseOfNot_15 h0.2.2.2.2.2.2.2.2.2.1 (by decide) (by decide) k) ?_
    refine Xi.br (tgt := 31) (pc' := 19) (7 ≤ (mI M o 11)) (fun _ _ kt kf => x_icmp_ge dX6_baseOfNot_16 rfl kt kf) (fun c => ?_) (fun c => ?_)
    · have h := h.1 c
      refine Xi.up (pc' := 32) (fun _ _ k => x_iconst dX6_baseOfNot_31 (show inR 0 from ⟨by decide, by decide⟩) k) ?_
      exact Xi.ret ⟨dX6_baseOfNot_32, Or.inl rfl⟩ h
    · have h := h.2 c
      refine Xi.up (pc' := 20) (fun _ _ k => x_aload_n dX6_baseOfNot_19 rfl rfl k) ?_
      refine Xi.up (pc' := 23) (fun _ _ k => x_getRK hK lf6_42 rfl dX6_baseOfNot_20 h0.1 h0.2.2.2.2.2.2.1 k) ?_
      refine Xi.up (pc' := 24) (fun _ _ k => x_aload_n dX6_baseOfNot_23 rfl rfl k) ?_
      refine Xi.up (pc' := 27) (fun _ _ k => x_getIK hK lf6_74 rfl dX6_baseOfNot_24 h0.1 k) ?_
      obtain ⟨g1, h⟩ := h
      obtain ⟨g2, h⟩ := h
      refine Xi.up (pc' := 28) (fun _ _ k => x_ialoadK hK dX6_baseOfNot_27 h0.2.2.2.2.2.2.2.2.2.1 g1 g2 k) ?_
      refine Xi.up (pc' := 32) (fun _ _ k => x_goto dX6_baseOfNot_28 rfl k) ?_
      exact Xi.ret ⟨dX6_baseOfNot_32, Or.inl rfl⟩ h
set_option maxHeartbeats 4000000 in
set_option maxRecDepth 20000 in
theorem B6_goDeeper {d : Nat} {K M : ZMem} {Q : Int → ZMem → Prop} (o : Nat) (hK : KW K M) (h0 : SearchAt K o) (h : (((mI M o 8) ≠ 5 → (Ci d q6_finish [zr o, zi 3] M (fun x2 M1 => KW K M1 ∧ Q x2 M1))) ∧ (¬ ((mI M o 8) ≠ 5) → (((mI M o 10) ≠ 0 → ((inR ((mI M o 9) + 1)) ∧ Cv d q6_startWay [zr o] (sI M o 9 ((mI M o 9) + 1)) (fun M7 => KW K M7 ∧ Q 0 M7))) ∧ (¬ ((mI M o 10) ≠ 0) → (Ci d q6_finish [zr o, zi 3] M (fun x11 M10 => KW K M10 ∧ Q x11 M10))))))) : Ci (d + 1) q6_goDeeper [zr o] M Q := by
  refine Ci.of rfl rfl (Nat.le_of_ble_eq_true rfl) (fun w hw x e => by subst e; simp at hw) (L := [some (zr o)]) rfl ?_
  refine Xi.up (pc' := 1) (fun _ _ k => x_aload_n dX6_goDeeper_0 rfl rfl k) ?_
  refine Xi.up (pc' := 4) (fun _ _ k => x_getIK hK lf6_53 rfl dX6_goDeeper_1 h0.1 k) ?_
  refine Xi.up (pc' := 5) (fun _ _ k => x_iconst dX6_goDeeper_4 (show inR 5 from ⟨by decide, by decide⟩) k) ?_
  refine Xi.br (tgt := 15) (pc' := 8) ((mI M o 8) ≠ 5) (fun _ _ kt kf => x_icmp_ne dX6_goDeeper_5 rfl kt kf) (fun c => ?_) (fun c => ?_)
  · have h := h.1 c
    refine Xi.up (pc' := 16) (fun _ _ k => x_aload_n dX6_goDeeper_15 rfl rfl k) ?_
    refine Xi.up (pc' := 17) (fun _ _ k => x_iconst dX6_goDeeper_16 (show inR 3 from ⟨by decide, by decide⟩) k) ?_
    obtain ⟨x2, M1, hc4, hK3, h⟩ := h
    refine Xi.up (pc' := 20) (st' := [zi x2]) (fun _ _ k => x_callVK (ci := 6) (as := [zi 3]) (st := []) hK k6_finish lm6_164 dX6_goDeeper_17 rfl (by decide) (zs8 rfl) h0.1 ⟨_, _, rfl⟩ hc4 k) ?_
    exact Xi.ret ⟨dX6_goDeeper_20, Or.inl rfl⟩ h
  · have h := h.2 c
    refine Xi.up (pc' := 9) (fun _ _ k => x_aload_n dX6_goDeeper_8 rfl rfl k) ?_
    refine Xi.up (pc' := 12) (fun _ _ k => x_getIK hK lf6_70 rfl dX6_goDeeper_9 h0.1 k) ?_
    refine Xi.br (tgt := 21) (pc' := 15) ((mI M o 10) ≠ 0) (fun _ _ kt kf => x_if_ne dX6_goDeeper_12 rfl kt kf) (fun c => ?_) (fun c => ?_)
    · have h := h.1 c
      refine Xi.up (pc' := 22) (fun _ _ k => x_aload_n dX6_goDeeper_21 rfl rfl k) ?_
      refine Xi.up (pc' := 23) (fun _ _ k => x_dupR dX6_goDeeper_22 k) ?_
      refine Xi.up (pc' := 26) (fun _ _ k => x_getIK hK lf6_64 rfl dX6_goDeeper_23 h0.1 k) ?_
      refine Xi.up (pc' := 27) (fun _ _ k => x_iconst dX6_goDeeper_26 (show inR 1 from ⟨by decide, by decide⟩) k) ?_
      obtain ⟨g5, h⟩ := h
      refine Xi.up (pc' := 28) (fun _ _ k => x_iadd dX6_goDeeper_27 g5 k) ?_
      refine Xi.up (pc' := 31) (fun _ _ k => x_putIK hK lf6_64 rfl rfl (Or.inl rfl) dX6_goDeeper_28 h0.1 k) ?_
      have hK6 := KW.sI hK o 9 ((mI M o 9) + 1)
      refine Xi.up (pc' := 32) (fun _ _ k => x_aload_n dX6_goDeeper_31 rfl rfl k) ?_
      obtain ⟨M7, hc9, hK8, h⟩ := h
      refine Xi.up (pc' := 35) (st' := []) (fun _ _ k => x_callVK (ci := 6) (as := []) (st := []) hK6 k6_startWay lm6_67 dX6_goDeeper_32 rfl (by decide) (zs8 rfl) h0.1 ⟨_, _, rfl⟩ hc9 k) ?_
      refine Xi.up (pc' := 36) (fun _ _ k => x_iconst dX6_goDeeper_35 (show inR 0 from ⟨by decide, by decide⟩) k) ?_
      exact Xi.ret ⟨dX6_goDeeper_36, Or.inl rfl⟩ h
    · have h := h.2 c
      refine Xi.up (pc' := 16) (fun _ _ k => x_aload_n dX6_goDeeper_15 rfl rfl k) ?_
      refine Xi.up (pc' := 17) (fun _ _ k => x_iconst dX6_goDeeper_16 (show inR 3 from ⟨by decide, by decide⟩) k) ?_
      obtain ⟨x11, M10, hc13, hK12, h⟩ := h
      refine Xi.up (pc' := 20) (st' := [zi x11]) (fun _ _ k => x_callVK (ci := 6) (as := [zi 3]) (st := []) hK k6_finish lm6_164 dX6_goDeeper_17 rfl (by decide) (zs8 rfl) h0.1 ⟨_, _, rfl⟩ hc13 k) ?_
      exact Xi.ret ⟨dX6_goDeeper_20, Or.inl rfl⟩ h
set_option maxHeartbeats 4000000 in
set_option maxRecDepth 20000 in
theorem B6_take {d : Nat} {K M : ZMem} {Q : ZMem → Prop} (o : Nat) (a1 : Nat) (a2 : Int) (hK : KW K M) (h0 : SearchAt K o) (h1 : PointsAt K a1) (h : Cq d q3_openAt [zr a1, zi a2] M (fun x2 M1 => KW K M1 ∧ ((x2 ≠ 0 → (Cq d q6_currentWay [zr o] M1 (fun x6 M5 => KW K M5 ∧ (PointAt K x2) ∧ (inR ((mI M5 x2 4) + 1)) ∧ (WayAt K x6) ∧ Cv d q8_become [zr x6, zr (x2 + 1)] (sI M5 x2 4 ((mI M5 x2 4) + 1)) (fun M13 => KW K M13 ∧ (inR ((mI (sI M13 x6 7 (zOr (mI M13 x6 7) (zShl 1 a2))) x6 5) + 1)) ∧ (((mI M5 x2 4) ≤ 0 → ((inR ((mI (sI (sI M13 x6 7 (zOr (mI M13 x6 7) (zShl 1 a2))) x6 5 ((mI (sI M13 x6 7 (zOr (mI M13 x6 7) (zShl 1 a2))) x6 5) + 1)) x6 6) + 0)) ∧ Ci d q4_kindOf [zr (o + 1), zi (mI (sI (sI (sI M13 x6 7 (zOr (mI M13 x6 7) (zShl 1 a2))) x6 5 ((mI (sI M13 x6 7 (zOr (mI M13 x6 7) (zShl 1 a2))) x6 5) + 1)) x6 6 ((mI (sI (sI M13 x6 7 (zOr (mI M13 x6 7) (zShl 1 a2))) x6 5 ((mI (sI M13 x6 7 (zOr (mI M13 x6 7) (zShl 1 a2))) x6 5) + 1)) x6 6) + 0)) x6 3)] (sI (sI (sI M13 x6 7 (zOr (mI M13 x6 7) (zShl 1 a2))) x6 5 ((mI (sI M13 x6 7 (zOr (mI M13 x6 7) (zShl 1 a2))) x6 5) + 1)) x6 6 ((mI (sI (sI M13 x6 7 (zOr (mI M13 x6 7) (zShl 1 a2))) x6 5 ((mI (sI M13 x6 7 (zOr (mI M13 x6 7) (zShl 1 a2))) x6 5) + 1)) x6 6) + 0)) (fun x22 M21 => KW K M21 ∧ ((x22 ≠ 5 → ((x22 ≠ 3 → (Ci d q2_amongAt [zr x2, zi (mI M5 x2 4)] M21 (fun x26 M25 => KW K M25 ∧ Ci d q4_detailOf [zr (o + 1), zi (mI (sI (sI (sI M13 x6 7 (zOr (mI M13 x6 7) (zShl 1 a2))) x6 5 ((mI (sI M13 x6 7 (zOr (mI M13 x6 7) (zShl 1 a2))) x6 5) + 1)) x6 6 ((mI (sI (sI M13 x6 7 (zOr (mI M13 x6 7) (zShl 1 a2))) x6 5 ((mI (sI M13 x6 7 (zOr (mI M13 x6 7) (zShl 1 a2))) x6 5) + 1)) x6 6) + 0)) x6 3)] M25 (fun x30 M29 => KW K M29 ∧ Cv d q8_setValue [zr x6, zi x30, zi x26] M29 (fun M33 => KW K M33 ∧ Ci d q4_behind [zr (o + 1), zi (mI (sI (sI (sI M13 x6 7 (zOr (mI M13 x6 7) (zShl 1 a2))) x6 5 ((mI (sI M13 x6 7 (zOr (mI M13 x6 7) (zShl 1 a2))) x6 5) + 1)) x6 6 ((mI (sI (sI M13 x6 7 (zOr (mI M13 x6 7) (zShl 1 a2))) x6 5 ((mI (sI M13 x6 7 (zOr (mI M13 x6 7) (zShl 1 a2))) x6 5) + 1)) x6 6) + 0)) x6 3)] M33 (fun x37 M36 => KW K M36 ∧ Ci d q2_left [zr x2] (sI M36 x6 3 x37) (fun x42 M41 => KW K M41 ∧ ((0 < x42 → (Q (sI M41 o 12 1))) ∧ (¬ (0 < x42) → (Cv d q3_remove [zr a1, zi a2, zr x6] M41 (fun M46 => KW K M46 ∧ Q (sI M46 o 12 1)))))))))))) ∧ (¬ (x22 ≠ 3) → ((inR ((mI M21 x2 2) + (mI M5 x2 4))) ∧ Ci d q4_detailOf [zr (o + 1), zi (mI (sI (sI (sI M13 x6 7 (zOr (mI M13 x6 7) (zShl 1 a2))) x6 5 ((mI (sI M13 x6 7 (zOr (mI M13 x6 7) (zShl 1 a2))) x6 5) + 1)) x6 6 ((mI (sI (sI M13 x6 7 (zOr (mI M13 x6 7) (zShl 1 a2))) x6 5 ((mI (sI M13 x6 7 (zOr (mI M13 x6 7) (zShl 1 a2))) x6 5) + 1)) x6 6) + 0)) x6 3)] M21 (fun x52 M51 => KW K M51 ∧ Cv d q8_setValue [zr x6, zi x52, zi ((mI M21 x2 2) + (mI M5 x2 4))] M51 (fun M55 => KW K M55 ∧ Ci d q4_behind [zr (o + 1), zi (mI (sI (sI (sI M13 x6 7 (zOr (mI M13 x6 7) (zShl 1 a2))) x6 5 ((mI (sI M13 x6 7 (zOr (mI M13 x6 7) (zShl 1 a2))) x6 5) + 1)) x6 6 ((mI (sI (sI M13 x6 7 (zOr (mI M13 x6 7) (zShl 1 a2))) x6 5 ((mI (sI M13 x6 7 (zOr (mI M13 x6 7) (zShl 1 a2))) x6 5) + 1)) x6 6) + 0)) x6 3)] M55 (fun x59 M58 => KW K M58 ∧ Ci d q2_left [zr x2] (sI M58 x6 3 x59) (fun x64 M63 => KW K M63 ∧ ((0 < x64 → (Q (sI M63 o 12 1))) ∧ (¬ (0 < x64) → (Cv d q3_remove [zr a1, zi a2, zr x6] M63 (fun M68 => KW K M68 ∧ Q (sI M68 o 12 1))))))))))))) ∧ (¬ (x22 ≠ 5) → (Ci d q4_partFirst [zr (o + 1), zi (mI (sI (sI (sI M13 x6 7 (zOr (mI M13 x6 7) (zShl 1 a2))) x6 5 ((mI (sI M13 x6 7 (zOr (mI M13 x6 7) (zShl 1 a2))) x6 5) + 1)) x6 6 ((mI (sI (sI M13 x6 7 (zOr (mI M13 x6 7) (zShl 1 a2))) x6 5 ((mI (sI M13 x6 7 (zOr (mI M13 x6 7) (zShl 1 a2))) x6 5) + 1)) x6 6) + 0)) x6 3), zi (mI M5 x2 4)] M21 (fun x73 M72 => KW K M72 ∧ Ci d q4_levelOf [zr (o + 1), zi (mI (sI (sI (sI M13 x6 7 (zOr (mI M13 x6 7) (zShl 1 a2))) x6 5 ((mI (sI M13 x6 7 (zOr (mI M13 x6 7) (zShl 1 a2))) x6 5) + 1)) x6 6 ((mI (sI (sI M13 x6 7 (zOr (mI M13 x6 7) (zShl 1 a2))) x6 5 ((mI (sI M13 x6 7 (zOr (mI M13 x6 7) (zShl 1 a2))) x6 5) + 1)) x6 6) + 0)) x6 3)] M72 (fun x77 M76 => KW K M76 ∧ (inR (x77 + 1)) ∧ Cv d q8_enter [zr x6, zi (mI (sI (sI (sI M13 x6 7 (zOr (mI M13 x6 7) (zShl 1 a2))) x6 5 ((mI (sI M13 x6 7 (zOr (mI M13 x6 7) (zShl 1 a2))) x6 5) + 1)) x6 6 ((mI (sI (sI M13 x6 7 (zOr (mI M13 x6 7) (zShl 1 a2))) x6 5 ((mI (sI M13 x6 7 (zOr (mI M13 x6 7) (zShl 1 a2))) x6 5) + 1)) x6 6) + 0)) x6 3), zi x73, zi (x77 + 1)] M76 (fun M81 => KW K M81 ∧ Ci d q2_left [zr x2] M81 (fun x85 M84 => KW K M84 ∧ ((0 < x85 → (Q (sI M84 o 12 1))) ∧ (¬ (0 < x85) → (Cv d q3_remove [zr a1, zi a2, zr x6] M84 (fun M89 => KW K M89 ∧ Q (sI M89 o 12 1))))))))))))))) ∧ (¬ ((mI M5 x2 4) ≤ 0) → ((inR ((mI (sI (sI M13 x6 7 (zOr (mI M13 x6 7) (zShl 1 a2))) x6 5 ((mI (sI M13 x6 7 (zOr (mI M13 x6 7) (zShl 1 a2))) x6 5) + 1)) x6 6) + 1)) ∧ Ci d q4_kindOf [zr (o + 1), zi (mI (sI (sI (sI M13 x6 7 (zOr (mI M13 x6 7) (zShl 1 a2))) x6 5 ((mI (sI M13 x6 7 (zOr (mI M13 x6 7) (zShl 1 a2))) x6 5) + 1)) x6 6 ((mI (sI (sI M13 x6 7 (zOr (mI M13 x6 7) (zShl 1 a2))) x6 5 ((mI (sI M13 x6 7 (zOr (mI M13 x6 7) (zShl 1 a2))) x6 5) + 1)) x6 6) + 1)) x6 3)] (sI (sI (sI M13 x6 7 (zOr (mI M13 x6 7) (zShl 1 a2))) x6 5 ((mI (sI M13 x6 7 (zOr (mI M13 x6 7) (zShl 1 a2))) x6 5) + 1)) x6 6 ((mI (sI (sI M13 x6 7 (zOr (mI M13 x6 7) (zShl 1 a2))) x6 5 ((mI (sI M13 x6 7 (zOr (mI M13 x6 7) (zShl 1 a2))) x6 5) + 1)) x6 6) + 1)) (fun x96 M95 => KW K M95 ∧ ((x96 ≠ 5 → ((x96 ≠ 3 → (Ci d q2_amongAt [zr x2, zi (mI M5 x2 4)] M95 (fun x100 M99 => KW K M99 ∧ Ci d q4_detailOf [zr (o + 1), zi (mI (sI (sI (sI M13 x6 7 (zOr (mI M13 x6 7) (zShl 1 a2))) x6 5 ((mI (sI M13 x6 7 (zOr (mI M13 x6 7) (zShl 1 a2))) x6 5) + 1)) x6 6 ((mI (sI (sI M13 x6 7 (zOr (mI M13 x6 7) (zShl 1 a2))) x6 5 ((mI (sI M13 x6 7 (zOr (mI M13 x6 7) (zShl 1 a2))) x6 5) + 1)) x6 6) + 1)) x6 3)] M99 (fun x104 M103 => KW K M103 ∧ Cv d q8_setValue [zr x6, zi x104, zi x100] M103 (fun M107 => KW K M107 ∧ Ci d q4_behind [zr (o + 1), zi (mI (sI (sI (sI M13 x6 7 (zOr (mI M13 x6 7) (zShl 1 a2))) x6 5 ((mI (sI M13 x6 7 (zOr (mI M13 x6 7) (zShl 1 a2))) x6 5) + 1)) x6 6 ((mI (sI (sI M13 x6 7 (zOr (mI M13 x6 7) (zShl 1 a2))) x6 5 ((mI (sI M13 x6 7 (zOr (mI M13 x6 7) (zShl 1 a2))) x6 5) + 1)) x6 6) + 1)) x6 3)] M107 (fun x111 M110 => KW K M110 ∧ Ci d q2_left [zr x2] (sI M110 x6 3 x111) (fun x116 M115 => KW K M115 ∧ ((0 < x116 → (Q (sI M115 o 12 1))) ∧ (¬ (0 < x116) → (Cv d q3_remove [zr a1, zi a2, zr x6] M115 (fun M120 => KW K M120 ∧ Q (sI M120 o 12 1)))))))))))) ∧ (¬ (x96 ≠ 3) → ((inR ((mI M95 x2 2) + (mI M5 x2 4))) ∧ Ci d q4_detailOf [zr (o + 1), zi (mI (sI (sI (sI M13 x6 7 (zOr (mI M13 x6 7) (zShl 1 a2))) x6 5 ((mI (sI M13 x6 7 (zOr (mI M13 x6 7) (zShl 1 a2))) x6 5) + 1)) x6 6 ((mI (sI (sI M13 x6 7 (zOr (mI M13 x6 7) (zShl 1 a2))) x6 5 ((mI (sI M13 x6 7 (zOr (mI M13 x6 7) (zShl 1 a2))) x6 5) + 1)) x6 6) + 1)) x6 3)] M95 (fun x126 M125 => KW K M125 ∧ Cv d q8_setValue [zr x6, zi x126, zi ((mI M95 x2 2) + (mI M5 x2 4))] M125 (fun M129 => KW K M129 ∧ Ci d q4_behind [zr (o + 1), zi (mI (sI (sI (sI M13 x6 7 (zOr (mI M13 x6 7) (zShl 1 a2))) x6 5 ((mI (sI M13 x6 7 (zOr (mI M13 x6 7) (zShl 1 a2))) x6 5) + 1)) x6 6 ((mI (sI (sI M13 x6 7 (zOr (mI M13 x6 7) (zShl 1 a2))) x6 5 ((mI (sI M13 x6 7 (zOr (mI M13 x6 7) (zShl 1 a2))) x6 5) + 1)) x6 6) + 1)) x6 3)] M129 (fun x133 M132 => KW K M132 ∧ Ci d q2_left [zr x2] (sI M132 x6 3 x133) (fun x138 M137 => KW K M137 ∧ ((0 < x138 → (Q (sI M137 o 12 1))) ∧ (¬ (0 < x138) → (Cv d q3_remove [zr a1, zi a2, zr x6] M137 (fun M142 => KW K M142 ∧ Q (sI M142 o 12 1))))))))))))) ∧ (¬ (x96 ≠ 5) → (Ci d q4_partFirst [zr (o + 1), zi (mI (sI (sI (sI M13 x6 7 (zOr (mI M13 x6 7) (zShl 1 a2))) x6 5 ((mI (sI M13 x6 7 (zOr (mI M13 x6 7) (zShl 1 a2))) x6 5) + 1)) x6 6 ((mI (sI (sI M13 x6 7 (zOr (mI M13 x6 7) (zShl 1 a2))) x6 5 ((mI (sI M13 x6 7 (zOr (mI M13 x6 7) (zShl 1 a2))) x6 5) + 1)) x6 6) + 1)) x6 3), zi (mI M5 x2 4)] M95 (fun x147 M146 => KW K M146 ∧ Ci d q4_levelOf [zr (o + 1), zi (mI (sI (sI (sI M13 x6 7 (zOr (mI M13 x6 7) (zShl 1 a2))) x6 5 ((mI (sI M13 x6 7 (zOr (mI M13 x6 7) (zShl 1 a2))) x6 5) + 1)) x6 6 ((mI (sI (sI M13 x6 7 (zOr (mI M13 x6 7) (zShl 1 a2))) x6 5 ((mI (sI M13 x6 7 (zOr (mI M13 x6 7) (zShl 1 a2))) x6 5) + 1)) x6 6) + 1)) x6 3)] M146 (fun x151 M150 => KW K M150 ∧ (inR (x151 + 1)) ∧ Cv d q8_enter [zr x6, zi (mI (sI (sI (sI M13 x6 7 (zOr (mI M13 x6 7) (zShl 1 a2))) x6 5 ((mI (sI M13 x6 7 (zOr (mI M13 x6 7) (zShl 1 a2))) x6 5) + 1)) x6 6 ((mI (sI (sI M13 x6 7 (zOr (mI M13 x6 7) (zShl 1 a2))) x6 5 ((mI (sI M13 x6 7 (zOr (mI M13 x6 7) (zShl 1 a2))) x6 5) + 1)) x6 6) + 1)) x6 3), zi x147, zi (x151 + 1)] M150 (fun M155 => KW K M155 ∧ Ci d q2_left [zr x2] M155 (fun x159 M158 => KW K M158 ∧ ((0 < x159 → (Q (sI M158 o 12 1))) ∧ (¬ (0 < x159) → (Cv d q3_remove [zr a1, zi a2, zr x6] M158 (fun M163 => KW K M163 ∧ Q (sI M163 o 12 1)))))))))))))))))))) ∧ (¬ (x2 ≠ 0) → (Q M1))))) : Cv (d + 1) q6_take [zr o, zr a1, zi a2] M Q := by
  refine Cv.of rfl rfl (Nat.le_of_ble_eq_true rfl) (fun w hw x e => by subst e; simp at hw) (L := [some (zr o), some (zr a1), some (zi a2), none, none, none, none, none, none]) rfl ?_
  refine Xv.up (pc' := 1) (fun _ _ k => x_aload_n dX6_take_0 rfl rfl k) ?_
  refine Xv.up (pc' := 2) (fun _ _ k => x_iload_n dX6_take_1 rfl rfl k) ?_
  obtain ⟨x2, M1, hc4, hK3, h⟩ := h
  refine Xv.up (pc' := 5) (st' := [zr x2]) (fun _ _ k => x_callVK (ci := 3) (as := [zi a2]) (st := []) hK k3_openAt lm6_102 dX6_take_2 rfl (by decide) (zs8 rfl) h1.1 ⟨_, _, rfl⟩ hc4 k) ?_
  refine Xv.up (pc' := 6) (L' := [some (zr o), some (zr a1), some (zi a2), some (zr x2), none, none, none, none, none]) (fun _ _ k => x_astore_n dX6_take_5 rfl (by decide) rfl k) ?_
  refine Xv.up (pc' := 7) (fun _ _ k => x_aload_n dX6_take_6 rfl rfl k) ?_
  refine Xv.br (tgt := 11) (pc' := 10) (x2 ≠ 0) (fun _ _ kt kf => x_ifnonnull dX6_take_7 rfl kt (fun e => kf (fun n => n e))) (fun c => ?_) (fun c => ?_)
  · have h := h.1 c
    refine Xv.up (pc' := 12) (fun _ _ k => x_aload_n dX6_take_11 rfl rfl k) ?_
    obtain ⟨x6, M5, hc8, hK7, h⟩ := h
    refine Xv.up (pc' := 15) (st' := [zr x6]) (fun _ _ k => x_callVK (ci := 6) (as := []) (st := []) hK3 k6_currentWay lm6_80 dX6_take_12 rfl (by decide) (zs8 rfl) h0.1 ⟨_, _, rfl⟩ hc8 k) ?_
    refine Xv.up (pc' := 17) (L' := [some (zr o), some (zr a1), some (zi a2), some (zr x2), some (zr x6), none, none, none, none]) (fun _ _ k => x_astore dX6_take_15 (by decide) rfl k) ?_
    refine Xv.up (pc' := 18) (fun _ _ k => x_aload_n dX6_take_17 rfl rfl k) ?_
    obtain ⟨g9, h⟩ := h
    refine Xv.up (pc' := 21) (L' := [some (zr o), some (zr a1), some (zi a2), some (zr x2), some (zr x6), none, none, none, none]) (fun _ _ k => x_getIK hK7 lf6_167 rfl dX6_take_18 g9.1 k) ?_
    refine Xv.up (pc' := 23) (L' := [some (zr o), some (zr a1), some (zi a2), some (zr x2), some (zr x6), some (zi (mI M5 x2 4)), none, none, none]) (fun _ _ k => x_istore dX6_take_21 (by decide) rfl k) ?_
    refine Xv.up (pc' := 24) (fun _ _ k => x_aload_n dX6_take_23 rfl rfl k) ?_
    refine Xv.up (pc' := 25) (fun _ _ k => x_dupR dX6_take_24 k) ?_
    refine Xv.up (pc' := 28) (fun _ _ k => x_getIK hK7 lf6_167 rfl dX6_take_25 g9.1 k) ?_
    refine Xv.up (pc' := 29) (fun _ _ k => x_iconst dX6_take_28 (show inR 1 from ⟨by decide, by decide⟩) k) ?_
    obtain ⟨g10, h⟩ := h
    refine Xv.up (pc' := 30) (fun _ _ k => x_iadd dX6_take_29 g10 k) ?_
    refine Xv.up (pc' := 33) (fun _ _ k => x_putIK hK7 lf6_167 rfl rfl (Or.inl rfl) dX6_take_30 g9.1 k) ?_
    have hK11 := KW.sI hK7 x2 4 ((mI M5 x2 4) + 1)
    refine Xv.up (pc' := 35) (fun _ _ k => x_aload dX6_take_33 rfl k) ?_
    refine Xv.up (pc' := 36) (fun _ _ k => x_aload_n dX6_take_35 rfl rfl k) ?_
    refine Xv.up (pc' := 39) (fun _ _ k => x_getRK hK11 lf6_147 rfl dX6_take_36 g9.1 g9.2.1 k) ?_
    obtain ⟨g12, h⟩ := h
    obtain ⟨M13, hc15, hK14, h⟩ := h
    refine Xv.up (pc' := 42) (st' := []) (fun _ _ k => x_callVK (ci := 8) (as := [zr (x2 + 1)]) (st := []) hK11 k8_become lm6_93 dX6_take_39 rfl (by decide) (zs8 rfl) g12.1 ⟨_, _, rfl⟩ hc15 k) ?_
    refine Xv.up (pc' := 44) (fun _ _ k => x_aload dX6_take_42 rfl k) ?_
    refine Xv.up (pc' := 45) (fun _ _ k => x_dupR dX6_take_44 k) ?_
    refine Xv.up (pc' := 48) (fun _ _ k => x_getIK hK14 lf6_170 rfl dX6_take_45 g12.1 k) ?_
    refine Xv.up (pc' := 49) (fun _ _ k => x_iconst dX6_take_48 (show inR 1 from ⟨by decide, by decide⟩) k) ?_
    refine Xv.up (pc' := 50) (fun _ _ k => x_iload_n dX6_take_49 rfl rfl k) ?_
    refine Xv.up (pc' := 51) (fun _ _ k => x_ishlK dX6_take_50 k) ?_
    refine Xv.up (pc' := 52) (fun _ _ k => x_iorK dX6_take_51 k) ?_
    refine Xv.up (pc' := 55) (fun _ _ k => x_putIK hK14 lf6_170 rfl rfl (Or.inl rfl) dX6_take_52 g12.1 k) ?_
    have hK16 := KW.sI hK14 x6 7 (zOr (mI M13 x6 7) (zShl 1 a2))
    refine Xv.up (pc' := 57) (fun _ _ k => x_aload dX6_take_55 rfl k) ?_
    refine Xv.up (pc' := 58) (fun _ _ k => x_dupR dX6_take_57 k) ?_
    refine Xv.up (pc' := 61) (fun _ _ k => x_getIK hK16 lf6_173 rfl dX6_take_58 g12.1 k) ?_
    refine Xv.up (pc' := 62) (fun _ _ k => x_iconst dX6_take_61 (show inR 1 from ⟨by decide, by decide⟩) k) ?_
    obtain ⟨g17, h⟩ := h
    refine Xv.up (pc' := 63) (fun _ _ k => x_iadd dX6_take_62 g17 k) ?_
    refine Xv.up (pc' := 66) (fun _ _ k => x_putIK hK16 lf6_173 rfl rfl (Or.inl rfl) dX6_take_63 g12.1 k) ?_
    have hK18 := KW.sI hK16 x6 5 ((mI (sI M13 x6 7 (zOr (mI M13 x6 7) (zShl 1 a2))) x6 5) + 1)
    refine Xv.up (pc' := 68) (fun _ _ k => x_aload dX6_take_66 rfl k) ?_
    refine Xv.up (pc' := 69) (fun _ _ k => x_dupR dX6_take_68 k) ?_
    refine Xv.up (pc' := 72) (fun _ _ k => x_getIK hK18 lf6_176 rfl dX6_take_69 g12.1 k) ?_
    refine Xv.up (pc' := 74) (fun _ _ k => x_iload dX6_take_72 rfl k) ?_
    refine Xv.br (tgt := 81) (pc' := 77) ((mI M5 x2 4) ≤ 0) (fun _ _ kt kf => x_if_le dX6_take_74 rfl kt kf) (fun c => ?_) (fun c => ?_)
    · have h := h.1 c
      refine Xv.up (pc' := 82) (fun _ _ k => x_iconst dX6_take_81 (show inR 0 from ⟨by decide, by decide⟩) k) ?_
      obtain ⟨g19, h⟩ := h
      refine Xv.up (pc' := 83) (fun _ _ k => x_iadd dX6_take_82 g19 k) ?_
      refine Xv.up (pc' := 86) (fun _ _ k => x_putIK hK18 lf6_176 rfl rfl (Or.inl rfl) dX6_take_83 g12.1 k) ?_
      have hK20 := KW.sI hK18 x6 6 ((mI (sI (sI M13 x6 7 (zOr (mI M13 x6 7) (zShl 1 a2))) x6 5 ((mI (sI M13 x6 7 (zOr (mI M13 x6 7) (zShl 1 a2))) x6 5) + 1)) x6 6) + 0)
      refine Xv.up (pc' := 88) (fun _ _ k => x_aload dX6_take_86 rfl k) ?_
      refine Xv.up (pc' := 91) (fun _ _ k => x_getIK hK20 lf6_120 rfl dX6_take_88 g12.1 k) ?_
      refine Xv.up (pc' := 93) (L' := [some (zr o), some (zr a1), some (zi a2), some (zr x2), some (zr x6), some (zi (mI M5 x2 4)), some (zi (mI (sI (sI (sI M13 x6 7 (zOr (mI M13 x6 7) (zShl 1 a2))) x6 5 ((mI (sI M13 x6 7 (zOr (mI M13 x6 7) (zShl 1 a2))) x6 5) + 1)) x6 6 ((mI (sI (sI M13 x6 7 (zOr (mI M13 x6 7) (zShl 1 a2))) x6 5 ((mI (sI M13 x6 7 (zOr (mI M13 x6 7) (zShl 1 a2))) x6 5) + 1)) x6 6) + 0)) x6 3)), none, none]) (fun _ _ k => x_istore dX6_take_91 (by decide) rfl k) ?_
      refine Xv.up (pc' := 94) (fun _ _ k => x_aload_n dX6_take_93 rfl rfl k) ?_
      refine Xv.up (pc' := 97) (fun _ _ k => x_getRK hK20 lf6_12 rfl dX6_take_94 h0.1 h0.2.1 k) ?_
      refine Xv.up (pc' := 99) (fun _ _ k => x_iload dX6_take_97 rfl k) ?_
      obtain ⟨x22, M21, hc24, hK23, h⟩ := h
      refine Xv.up (pc' := 102) (st' := [zi x22]) (fun _ _ k => x_callVK (ci := 4) (as := [zi (mI (sI (sI (sI M13 x6 7 (zOr (mI M13 x6 7) (zShl 1 a2))) x6 5 ((mI (sI M13 x6 7 (zOr (mI M13 x6 7) (zShl 1 a2))) x6 5) + 1)) x6 6 ((mI (sI (sI M13 x6 7 (zOr (mI M13 x6 7) (zShl 1 a2))) x6 5 ((mI (sI M13 x6 7 (zOr (mI M13 x6 7) (zShl 1 a2))) x6 5) + 1)) x6 6) + 0)) x6 3)]) (st := []) hK20 k4_kindOf lm6_179 dX6_take_99 rfl (by decide) (zs8 rfl) h0.2.2.2.2.2.2.2.2.2.2.2.1.1 ⟨_, _, rfl⟩ hc24 k) ?_
      refine Xv.up (pc' := 104) (L' := [some (zr o), some (zr a1), some (zi a2), some (zr x2), some (zr x6), some (zi (mI M5 x2 4)), some (zi (mI (sI (sI (sI M13 x6 7 (zOr (mI M13 x6 7) (zShl 1 a2))) x6 5 ((mI (sI M13 x6 7 (zOr (mI M13 x6 7) (zShl 1 a2))) x6 5) + 1)) x6 6 ((mI (sI (sI M13 x6 7 (zOr (mI M13 x6 7) (zShl 1 a2))) x6 5 ((mI (sI M13 x6 7 (zOr (mI M13 x6 7) (zShl 1 a2))) x6 5) + 1)) x6 6) + 0)) x6 3)), some (zi x22), none]) (fun _ _ k => x_istore dX6_take_102 (by decide) rfl k) ?_
      refine Xv.up (pc' := 106) (fun _ _ k => x_iload dX6_take_104 rfl k) ?_
      refine Xv.up (pc' := 107) (fun _ _ k => x_iconst dX6_take_106 (show inR 5 from ⟨by decide, by decide⟩) k) ?_
      refine Xv.br (tgt := 142) (pc' := 110) (x22 ≠ 5) (fun _ _ kt kf => x_icmp_ne dX6_take_107 rfl kt kf) (fun c => ?_) (fun c => ?_)
      · have h := h.1 c
        refine Xv.up (pc' := 144) (fun _ _ k => x_iload dX6_take_142 rfl k) ?_
        refine Xv.up (pc' := 145) (fun _ _ k => x_iconst dX6_take_144 (show inR 3 from ⟨by decide, by decide⟩) k) ?_
        refine Xv.br (tgt := 158) (pc' := 148) (x22 ≠ 3) (fun _ _ kt kf => x_icmp_ne dX6_take_145 rfl kt kf) (fun c => ?_) (fun c => ?_)
        · have h := h.1 c
          refine Xv.up (pc' := 159) (fun _ _ k => x_aload_n dX6_take_158 rfl rfl k) ?_
          refine Xv.up (pc' := 161) (fun _ _ k => x_iload dX6_take_159 rfl k) ?_
          obtain ⟨x26, M25, hc28, hK27, h⟩ := h
          refine Xv.up (pc' := 164) (st' := [zi x26]) (fun _ _ k => x_callVK (ci := 2) (as := [zi (mI M5 x2 4)]) (st := []) hK23 k2_amongAt lm6_196 dX6_take_161 rfl (by decide) (zs8 rfl) g9.1 ⟨_, _, rfl⟩ hc28 k) ?_
          refine Xv.up (pc' := 166) (L' := [some (zr o), some (zr a1), some (zi a2), some (zr x2), some (zr x6), some (zi (mI M5 x2 4)), some (zi (mI (sI (sI (sI M13 x6 7 (zOr (mI M13 x6 7) (zShl 1 a2))) x6 5 ((mI (sI M13 x6 7 (zOr (mI M13 x6 7) (zShl 1 a2))) x6 5) + 1)) x6 6 ((mI (sI (sI M13 x6 7 (zOr (mI M13 x6 7) (zShl 1 a2))) x6 5 ((mI (sI M13 x6 7 (zOr (mI M13 x6 7) (zShl 1 a2))) x6 5) + 1)) x6 6) + 0)) x6 3)), some (zi x22), some (zi x26)]) (fun _ _ k => x_istore dX6_take_164 (by decide) rfl k) ?_
          refine Xv.up (pc' := 168) (fun _ _ k => x_aload dX6_take_166 rfl k) ?_
          refine Xv.up (pc' := 169) (fun _ _ k => x_aload_n dX6_take_168 rfl rfl k) ?_
          refine Xv.up (pc' := 172) (fun _ _ k => x_getRK hK27 lf6_12 rfl dX6_take_169 h0.1 h0.2.1 k) ?_
          refine Xv.up (pc' := 174) (fun _ _ k => x_iload dX6_take_172 rfl k) ?_
          obtain ⟨x30, M29, hc32, hK31, h⟩ := h
          refine Xv.up (pc' := 177) (st' := [zi x30, zr x6]) (fun _ _ k => x_callVK (ci := 4) (as := [zi (mI (sI (sI (sI M13 x6 7 (zOr (mI M13 x6 7) (zShl 1 a2))) x6 5 ((mI (sI M13 x6 7 (zOr (mI M13 x6 7) (zShl 1 a2))) x6 5) + 1)) x6 6 ((mI (sI (sI M13 x6 7 (zOr (mI M13 x6 7) (zShl 1 a2))) x6 5 ((mI (sI M13 x6 7 (zOr (mI M13 x6 7) (zShl 1 a2))) x6 5) + 1)) x6 6) + 0)) x6 3)]) (st := [zr x6]) hK27 k4_detailOf lm6_199 dX6_take_174 rfl (by decide) (zs8 rfl) h0.2.2.2.2.2.2.2.2.2.2.2.1.1 ⟨_, _, rfl⟩ hc32 k) ?_
          refine Xv.up (pc' := 179) (fun _ _ k => x_iload dX6_take_177 rfl k) ?_
          obtain ⟨M33, hc35, hK34, h⟩ := h
          refine Xv.up (pc' := 182) (st' := []) (fun _ _ k => x_callVK (ci := 8) (as := [zi x30, zi x26]) (st := []) hK31 k8_setValue lm6_202 dX6_take_179 rfl (by decide) (zs8 rfl) g12.1 ⟨_, _, rfl⟩ hc35 k) ?_
          refine Xv.up (pc' := 184) (fun _ _ k => x_aload dX6_take_182 rfl k) ?_
          refine Xv.up (pc' := 185) (fun _ _ k => x_aload_n dX6_take_184 rfl rfl k) ?_
          refine Xv.up (pc' := 188) (fun _ _ k => x_getRK hK34 lf6_12 rfl dX6_take_185 h0.1 h0.2.1 k) ?_
          refine Xv.up (pc' := 190) (fun _ _ k => x_iload dX6_take_188 rfl k) ?_
          obtain ⟨x37, M36, hc39, hK38, h⟩ := h
          refine Xv.up (pc' := 193) (st' := [zi x37, zr x6]) (fun _ _ k => x_callVK (ci := 4) (as := [zi (mI (sI (sI (sI M13 x6 7 (zOr (mI M13 x6 7) (zShl 1 a2))) x6 5 ((mI (sI M13 x6 7 (zOr (mI M13 x6 7) (zShl 1 a2))) x6 5) + 1)) x6 6 ((mI (sI (sI M13 x6 7 (zOr (mI M13 x6 7) (zShl 1 a2))) x6 5 ((mI (sI M13 x6 7 (zOr (mI M13 x6 7) (zShl 1 a2))) x6 5) + 1)) x6 6) + 0)) x6 3)]) (st := [zr x6]) hK34 k4_behind lm6_161 dX6_take_190 rfl (by decide) (zs8 rfl) h0.2.2.2.2.2.2.2.2.2.2.2.1.1 ⟨_, _, rfl⟩ hc39 k) ?_
          refine Xv.up (pc' := 196) (fun _ _ k => x_putIK hK38 lf6_120 rfl rfl (Or.inl rfl) dX6_take_193 g12.1 k) ?_
          have hK40 := KW.sI hK38 x6 3 x37
          refine Xv.up (pc' := 197) (fun _ _ k => x_aload_n dX6_take_196 rfl rfl k) ?_
          obtain ⟨x42, M41, hc44, hK43, h⟩ := h
          refine Xv.up (pc' := 200) (st' := [zi x42]) (fun _ _ k => x_callVK (ci := 2) (as := []) (st := []) hK40 k2_left lm6_205 dX6_take_197 rfl (by decide) (zs8 rfl) g9.1 ⟨_, _, rfl⟩ hc44 k) ?_
          refine Xv.br (tgt := 210) (pc' := 203) (0 < x42) (fun _ _ kt kf => x_if_gt dX6_take_200 rfl kt kf) (fun c => ?_) (fun c => ?_)
          · have h := h.1 c
            refine Xv.up (pc' := 211) (fun _ _ k => x_aload_n dX6_take_210 rfl rfl k) ?_
            refine Xv.up (pc' := 212) (fun _ _ k => x_iconst dX6_take_211 (show inR 1 from ⟨by decide, by decide⟩) k) ?_
            refine Xv.up (pc' := 215) (fun _ _ k => x_putIK hK43 lf6_77 rfl rfl (Or.inr (Or.inr rfl)) dX6_take_212 h0.1 k) ?_
            have hK45 := KW.sI hK43 o 12 1
            exact Xv.ret ⟨dX6_take_215, rfl⟩ h
          · have h := h.2 c
            refine Xv.up (pc' := 204) (fun _ _ k => x_aload_n dX6_take_203 rfl rfl k) ?_
            refine Xv.up (pc' := 205) (fun _ _ k => x_iload_n dX6_take_204 rfl rfl k) ?_
            refine Xv.up (pc' := 207) (fun _ _ k => x_aload dX6_take_205 rfl k) ?_
            obtain ⟨M46, hc48, hK47, h⟩ := h
            refine Xv.up (pc' := 210) (st' := []) (fun _ _ k => x_callVK (ci := 3) (as := [zi a2, zr x6]) (st := []) hK43 k3_remove lm6_208 dX6_take_207 rfl (by decide) (zs8 rfl) h1.1 ⟨_, _, rfl⟩ hc48 k) ?_
            refine Xv.up (pc' := 211) (fun _ _ k => x_aload_n dX6_take_210 rfl rfl k) ?_
            refine Xv.up (pc' := 212) (fun _ _ k => x_iconst dX6_take_211 (show inR 1 from ⟨by decide, by decide⟩) k) ?_
            refine Xv.up (pc' := 215) (fun _ _ k => x_putIK hK47 lf6_77 rfl rfl (Or.inr (Or.inr rfl)) dX6_take_212 h0.1 k) ?_
            have hK49 := KW.sI hK47 o 12 1
            exact Xv.ret ⟨dX6_take_215, rfl⟩ h
        · have h := h.2 c
          refine Xv.up (pc' := 149) (fun _ _ k => x_aload_n dX6_take_148 rfl rfl k) ?_
          refine Xv.up (pc' := 152) (fun _ _ k => x_getIK hK23 lf6_193 rfl dX6_take_149 g9.1 k) ?_
          refine Xv.up (pc' := 154) (fun _ _ k => x_iload dX6_take_152 rfl k) ?_
          obtain ⟨g50, h⟩ := h
          refine Xv.up (pc' := 155) (fun _ _ k => x_iadd dX6_take_154 g50 k) ?_
          refine Xv.up (pc' := 164) (fun _ _ k => x_goto dX6_take_155 rfl k) ?_
          refine Xv.up (pc' := 166) (L' := [some (zr o), some (zr a1), some (zi a2), some (zr x2), some (zr x6), some (zi (mI M5 x2 4)), some (zi (mI (sI (sI (sI M13 x6 7 (zOr (mI M13 x6 7) (zShl 1 a2))) x6 5 ((mI (sI M13 x6 7 (zOr (mI M13 x6 7) (zShl 1 a2))) x6 5) + 1)) x6 6 ((mI (sI (sI M13 x6 7 (zOr (mI M13 x6 7) (zShl 1 a2))) x6 5 ((mI (sI M13 x6 7 (zOr (mI M13 x6 7) (zShl 1 a2))) x6 5) + 1)) x6 6) + 0)) x6 3)), some (zi x22), some (zi ((mI M21 x2 2) + (mI M5 x2 4)))]) (fun _ _ k => x_istore dX6_take_164 (by decide) rfl k) ?_
          refine Xv.up (pc' := 168) (fun _ _ k => x_aload dX6_take_166 rfl k) ?_
          refine Xv.up (pc' := 169) (fun _ _ k => x_aload_n dX6_take_168 rfl rfl k) ?_
          refine Xv.up (pc' := 172) (fun _ _ k => x_getRK hK23 lf6_12 rfl dX6_take_169 h0.1 h0.2.1 k) ?_
          refine Xv.up (pc' := 174) (fun _ _ k => x_iload dX6_take_172 rfl k) ?_
          obtain ⟨x52, M51, hc54, hK53, h⟩ := h
          refine Xv.up (pc' := 177) (st' := [zi x52, zr x6]) (fun _ _ k => x_callVK (ci := 4) (as := [zi (mI (sI (sI (sI M13 x6 7 (zOr (mI M13 x6 7) (zShl 1 a2))) x6 5 ((mI (sI M13 x6 7 (zOr (mI M13 x6 7) (zShl 1 a2))) x6 5) + 1)) x6 6 ((mI (sI (sI M13 x6 7 (zOr (mI M13 x6 7) (zShl 1 a2))) x6 5 ((mI (sI M13 x6 7 (zOr (mI M13 x6 7) (zShl 1 a2))) x6 5) + 1)) x6 6) + 0)) x6 3)]) (st := [zr x6]) hK23 k4_detailOf lm6_199 dX6_take_174 rfl (by decide) (zs8 rfl) h0.2.2.2.2.2.2.2.2.2.2.2.1.1 ⟨_, _, rfl⟩ hc54 k) ?_
          refine Xv.up (pc' := 179) (fun _ _ k => x_iload dX6_take_177 rfl k) ?_
          obtain ⟨M55, hc57, hK56, h⟩ := h
          refine Xv.up (pc' := 182) (st' := []) (fun _ _ k => x_callVK (ci := 8) (as := [zi x52, zi ((mI M21 x2 2) + (mI M5 x2 4))]) (st := []) hK53 k8_setValue lm6_202 dX6_take_179 rfl (by decide) (zs8 rfl) g12.1 ⟨_, _, rfl⟩ hc57 k) ?_
          refine Xv.up (pc' := 184) (fun _ _ k => x_aload dX6_take_182 rfl k) ?_
          refine Xv.up (pc' := 185) (fun _ _ k => x_aload_n dX6_take_184 rfl rfl k) ?_
          refine Xv.up (pc' := 188) (fun _ _ k => x_getRK hK56 lf6_12 rfl dX6_take_185 h0.1 h0.2.1 k) ?_
          refine Xv.up (pc' := 190) (fun _ _ k => x_iload dX6_take_188 rfl k) ?_
          obtain ⟨x59, M58, hc61, hK60, h⟩ := h
          refine Xv.up (pc' := 193) (st' := [zi x59, zr x6]) (fun _ _ k => x_callVK (ci := 4) (as := [zi (mI (sI (sI (sI M13 x6 7 (zOr (mI M13 x6 7) (zShl 1 a2))) x6 5 ((mI (sI M13 x6 7 (zOr (mI M13 x6 7) (zShl 1 a2))) x6 5) + 1)) x6 6 ((mI (sI (sI M13 x6 7 (zOr (mI M13 x6 7) (zShl 1 a2))) x6 5 ((mI (sI M13 x6 7 (zOr (mI M13 x6 7) (zShl 1 a2))) x6 5) + 1)) x6 6) + 0)) x6 3)]) (st := [zr x6]) hK56 k4_behind lm6_161 dX6_take_190 rfl (by decide) (zs8 rfl) h0.2.2.2.2.2.2.2.2.2.2.2.1.1 ⟨_, _, rfl⟩ hc61 k) ?_
          refine Xv.up (pc' := 196) (fun _ _ k => x_putIK hK60 lf6_120 rfl rfl (Or.inl rfl) dX6_take_193 g12.1 k) ?_
          have hK62 := KW.sI hK60 x6 3 x59
          refine Xv.up (pc' := 197) (fun _ _ k => x_aload_n dX6_take_196 rfl rfl k) ?_
          obtain ⟨x64, M63, hc66, hK65, h⟩ := h
          refine Xv.up (pc' := 200) (st' := [zi x64]) (fun _ _ k => x_callVK (ci := 2) (as := []) (st := []) hK62 k2_left lm6_205 dX6_take_197 rfl (by decide) (zs8 rfl) g9.1 ⟨_, _, rfl⟩ hc66 k) ?_
          refine Xv.br (tgt := 210) (pc' := 203) (0 < x64) (fun _ _ kt kf => x_if_gt dX6_take_200 rfl kt kf) (fun c => ?_) (fun c => ?_)
          · have h := h.1 c
            refine Xv.up (pc' := 211) (fun _ _ k => x_aload_n dX6_take_210 rfl rfl k) ?_
            refine Xv.up (pc' := 212) (fun _ _ k => x_iconst dX6_take_211 (show inR 1 from ⟨by decide, by decide⟩) k) ?_
            refine Xv.up (pc' := 215) (fun _ _ k => x_putIK hK65 lf6_77 rfl rfl (Or.inr (Or.inr rfl)) dX6_take_212 h0.1 k) ?_
            have hK67 := KW.sI hK65 o 12 1
            exact Xv.ret ⟨dX6_take_215, rfl⟩ h
          · have h := h.2 c
            refine Xv.up (pc' := 204) (fun _ _ k => x_aload_n dX6_take_203 rfl rfl k) ?_
            refine Xv.up (pc' := 205) (fun _ _ k => x_iload_n dX6_take_204 rfl rfl k) ?_
            refine Xv.up (pc' := 207) (fun _ _ k => x_aload dX6_take_205 rfl k) ?_
            obtain ⟨M68, hc70, hK69, h⟩ := h
            refine Xv.up (pc' := 210) (st' := []) (fun _ _ k => x_callVK (ci := 3) (as := [zi a2, zr x6]) (st := []) hK65 k3_remove lm6_208 dX6_take_207 rfl (by decide) (zs8 rfl) h1.1 ⟨_, _, rfl⟩ hc70 k) ?_
            refine Xv.up (pc' := 211) (fun _ _ k => x_aload_n dX6_take_210 rfl rfl k) ?_
            refine Xv.up (pc' := 212) (fun _ _ k => x_iconst dX6_take_211 (show inR 1 from ⟨by decide, by decide⟩) k) ?_
            refine Xv.up (pc' := 215) (fun _ _ k => x_putIK hK69 lf6_77 rfl rfl (Or.inr (Or.inr rfl)) dX6_take_212 h0.1 k) ?_
            have hK71 := KW.sI hK69 o 12 1
            exact Xv.ret ⟨dX6_take_215, rfl⟩ h
      · have h := h.2 c
        refine Xv.up (pc' := 112) (fun _ _ k => x_aload dX6_take_110 rfl k) ?_
        refine Xv.up (pc' := 114) (fun _ _ k => x_iload dX6_take_112 rfl k) ?_
        refine Xv.up (pc' := 115) (fun _ _ k => x_aload_n dX6_take_114 rfl rfl k) ?_
        refine Xv.up (pc' := 118) (fun _ _ k => x_getRK hK23 lf6_12 rfl dX6_take_115 h0.1 h0.2.1 k) ?_
        refine Xv.up (pc' := 120) (fun _ _ k => x_iload dX6_take_118 rfl k) ?_
        refine Xv.up (pc' := 122) (fun _ _ k => x_iload dX6_take_120 rfl k) ?_
        obtain ⟨x73, M72, hc75, hK74, h⟩ := h
        refine Xv.up (pc' := 125) (st' := [zi x73, zi (mI (sI (sI (sI M13 x6 7 (zOr (mI M13 x6 7) (zShl 1 a2))) x6 5 ((mI (sI M13 x6 7 (zOr (mI M13 x6 7) (zShl 1 a2))) x6 5) + 1)) x6 6 ((mI (sI (sI M13 x6 7 (zOr (mI M13 x6 7) (zShl 1 a2))) x6 5 ((mI (sI M13 x6 7 (zOr (mI M13 x6 7) (zShl 1 a2))) x6 5) + 1)) x6 6) + 0)) x6 3), zr x6]) (fun _ _ k => x_callVK (ci := 4) (as := [zi (mI (sI (sI (sI M13 x6 7 (zOr (mI M13 x6 7) (zShl 1 a2))) x6 5 ((mI (sI M13 x6 7 (zOr (mI M13 x6 7) (zShl 1 a2))) x6 5) + 1)) x6 6 ((mI (sI (sI M13 x6 7 (zOr (mI M13 x6 7) (zShl 1 a2))) x6 5 ((mI (sI M13 x6 7 (zOr (mI M13 x6 7) (zShl 1 a2))) x6 5) + 1)) x6 6) + 0)) x6 3), zi (mI M5 x2 4)]) (st := [zi (mI (sI (sI (sI M13 x6 7 (zOr (mI M13 x6 7) (zShl 1 a2))) x6 5 ((mI (sI M13 x6 7 (zOr (mI M13 x6 7) (zShl 1 a2))) x6 5) + 1)) x6 6 ((mI (sI (sI M13 x6 7 (zOr (mI M13 x6 7) (zShl 1 a2))) x6 5 ((mI (sI M13 x6 7 (zOr (mI M13 x6 7) (zShl 1 a2))) x6 5) + 1)) x6 6) + 0)) x6 3), zr x6]) hK23 k4_partFirst lm6_182 dX6_take_122 rfl (by decide) (zs8 rfl) h0.2.2.2.2.2.2.2.2.2.2.2.1.1 ⟨_, _, rfl⟩ hc75 k) ?_
        refine Xv.up (pc' := 126) (fun _ _ k => x_aload_n dX6_take_125 rfl rfl k) ?_
        refine Xv.up (pc' := 129) (fun _ _ k => x_getRK hK74 lf6_12 rfl dX6_take_126 h0.1 h0.2.1 k) ?_
        refine Xv.up (pc' := 131) (fun _ _ k => x_iload dX6_take_129 rfl k) ?_
        obtain ⟨x77, M76, hc79, hK78, h⟩ := h
        refine Xv.up (pc' := 134) (st' := [zi x77, zi x73, zi (mI (sI (sI (sI M13 x6 7 (zOr (mI M13 x6 7) (zShl 1 a2))) x6 5 ((mI (sI M13 x6 7 (zOr (mI M13 x6 7) (zShl 1 a2))) x6 5) + 1)) x6 6 ((mI (sI (sI M13 x6 7 (zOr (mI M13 x6 7) (zShl 1 a2))) x6 5 ((mI (sI M13 x6 7 (zOr (mI M13 x6 7) (zShl 1 a2))) x6 5) + 1)) x6 6) + 0)) x6 3), zr x6]) (fun _ _ k => x_callVK (ci := 4) (as := [zi (mI (sI (sI (sI M13 x6 7 (zOr (mI M13 x6 7) (zShl 1 a2))) x6 5 ((mI (sI M13 x6 7 (zOr (mI M13 x6 7) (zShl 1 a2))) x6 5) + 1)) x6 6 ((mI (sI (sI M13 x6 7 (zOr (mI M13 x6 7) (zShl 1 a2))) x6 5 ((mI (sI M13 x6 7 (zOr (mI M13 x6 7) (zShl 1 a2))) x6 5) + 1)) x6 6) + 0)) x6 3)]) (st := [zi x73, zi (mI (sI (sI (sI M13 x6 7 (zOr (mI M13 x6 7) (zShl 1 a2))) x6 5 ((mI (sI M13 x6 7 (zOr (mI M13 x6 7) (zShl 1 a2))) x6 5) + 1)) x6 6 ((mI (sI (sI M13 x6 7 (zOr (mI M13 x6 7) (zShl 1 a2))) x6 5 ((mI (sI M13 x6 7 (zOr (mI M13 x6 7) (zShl 1 a2))) x6 5) + 1)) x6 6) + 0)) x6 3), zr x6]) hK74 k4_levelOf lm6_186 dX6_take_131 rfl (by decide) (zs8 rfl) h0.2.2.2.2.2.2.2.2.2.2.2.1.1 ⟨_, _, rfl⟩ hc79 k) ?_
        refine Xv.up (pc' := 135) (fun _ _ k => x_iconst dX6_take_134 (show inR 1 from ⟨by decide, by decide⟩) k) ?_
        obtain ⟨g80, h⟩ := h
        refine Xv.up (pc' := 136) (fun _ _ k => x_iadd dX6_take_135 g80 k) ?_
        obtain ⟨M81, hc83, hK82, h⟩ := h
        refine Xv.up (pc' := 139) (st' := []) (fun _ _ k => x_callVK (ci := 8) (as := [zi (mI (sI (sI (sI M13 x6 7 (zOr (mI M13 x6 7) (zShl 1 a2))) x6 5 ((mI (sI M13 x6 7 (zOr (mI M13 x6 7) (zShl 1 a2))) x6 5) + 1)) x6 6 ((mI (sI (sI M13 x6 7 (zOr (mI M13 x6 7) (zShl 1 a2))) x6 5 ((mI (sI M13 x6 7 (zOr (mI M13 x6 7) (zShl 1 a2))) x6 5) + 1)) x6 6) + 0)) x6 3), zi x73, zi (x77 + 1)]) (st := []) hK78 k8_enter lm6_189 dX6_take_136 rfl (by decide) (zs8 rfl) g12.1 ⟨_, _, rfl⟩ hc83 k) ?_
        refine Xv.up (pc' := 196) (fun _ _ k => x_goto dX6_take_139 rfl k) ?_
        refine Xv.up (pc' := 197) (fun _ _ k => x_aload_n dX6_take_196 rfl rfl k) ?_
        obtain ⟨x85, M84, hc87, hK86, h⟩ := h
        refine Xv.up (pc' := 200) (st' := [zi x85]) (fun _ _ k => x_callVK (ci := 2) (as := []) (st := []) hK82 k2_left lm6_205 dX6_take_197 rfl (by decide) (zs8 rfl) g9.1 ⟨_, _, rfl⟩ hc87 k) ?_
        refine Xv.br (tgt := 210) (pc' := 203) (0 < x85) (fun _ _ kt kf => x_if_gt dX6_take_200 rfl kt kf) (fun c => ?_) (fun c => ?_)
        · have h := h.1 c
          refine Xv.up (pc' := 211) (fun _ _ k => x_aload_n dX6_take_210 rfl rfl k) ?_
          refine Xv.up (pc' := 212) (fun _ _ k => x_iconst dX6_take_211 (show inR 1 from ⟨by decide, by decide⟩) k) ?_
          refine Xv.up (pc' := 215) (fun _ _ k => x_putIK hK86 lf6_77 rfl rfl (Or.inr (Or.inr rfl)) dX6_take_212 h0.1 k) ?_
          have hK88 := KW.sI hK86 o 12 1
          exact Xv.ret ⟨dX6_take_215, rfl⟩ h
        · have h := h.2 c
          refine Xv.up (pc' := 204) (fun _ _ k => x_aload_n dX6_take_203 rfl rfl k) ?_
          refine Xv.up (pc' := 205) (fun _ _ k => x_iload_n dX6_take_204 rfl rfl k) ?_
          refine Xv.up (pc' := 207) (fun _ _ k => x_aload dX6_take_205 rfl k) ?_
          obtain ⟨M89, hc91, hK90, h⟩ := h
          refine Xv.up (pc' := 210) (st' := []) (fun _ _ k => x_callVK (ci := 3) (as := [zi a2, zr x6]) (st := []) hK86 k3_remove lm6_208 dX6_take_207 rfl (by decide) (zs8 rfl) h1.1 ⟨_, _, rfl⟩ hc91 k) ?_
          refine Xv.up (pc' := 211) (fun _ _ k => x_aload_n dX6_take_210 rfl rfl k) ?_
          refine Xv.up (pc' := 212) (fun _ _ k => x_iconst dX6_take_211 (show inR 1 from ⟨by decide, by decide⟩) k) ?_
          refine Xv.up (pc' := 215) (fun _ _ k => x_putIK hK90 lf6_77 rfl rfl (Or.inr (Or.inr rfl)) dX6_take_212 h0.1 k) ?_
          have hK92 := KW.sI hK90 o 12 1
          exact Xv.ret ⟨dX6_take_215, rfl⟩ h
    · have h := h.2 c
      refine Xv.up (pc' := 78) (fun _ _ k => x_iconst dX6_take_77 (show inR 1 from ⟨by decide, by decide⟩) k) ?_
      refine Xv.up (pc' := 82) (fun _ _ k => x_goto dX6_take_78 rfl k) ?_
      obtain ⟨g93, h⟩ := h
      refine Xv.up (pc' := 83) (fun _ _ k => x_iadd dX6_take_82 g93 k) ?_
      refine Xv.up (pc' := 86) (fun _ _ k => x_putIK hK18 lf6_176 rfl rfl (Or.inl rfl) dX6_take_83 g12.1 k) ?_
      have hK94 := KW.sI hK18 x6 6 ((mI (sI (sI M13 x6 7 (zOr (mI M13 x6 7) (zShl 1 a2))) x6 5 ((mI (sI M13 x6 7 (zOr (mI M13 x6 7) (zShl 1 a2))) x6 5) + 1)) x6 6) + 1)
      refine Xv.up (pc' := 88) (fun _ _ k => x_aload dX6_take_86 rfl k) ?_
      refine Xv.up (pc' := 91) (fun _ _ k => x_getIK hK94 lf6_120 rfl dX6_take_88 g12.1 k) ?_
      refine Xv.up (pc' := 93) (L' := [some (zr o), some (zr a1), some (zi a2), some (zr x2), some (zr x6), some (zi (mI M5 x2 4)), some (zi (mI (sI (sI (sI M13 x6 7 (zOr (mI M13 x6 7) (zShl 1 a2))) x6 5 ((mI (sI M13 x6 7 (zOr (mI M13 x6 7) (zShl 1 a2))) x6 5) + 1)) x6 6 ((mI (sI (sI M13 x6 7 (zOr (mI M13 x6 7) (zShl 1 a2))) x6 5 ((mI (sI M13 x6 7 (zOr (mI M13 x6 7) (zShl 1 a2))) x6 5) + 1)) x6 6) + 1)) x6 3)), none, none]) (fun _ _ k => x_istore dX6_take_91 (by decide) rfl k) ?_
      refine Xv.up (pc' := 94) (fun _ _ k => x_aload_n dX6_take_93 rfl rfl k) ?_
      refine Xv.up (pc' := 97) (fun _ _ k => x_getRK hK94 lf6_12 rfl dX6_take_94 h0.1 h0.2.1 k) ?_
      refine Xv.up (pc' := 99) (fun _ _ k => x_iload dX6_take_97 rfl k) ?_
      obtain ⟨x96, M95, hc98, hK97, h⟩ := h
      refine Xv.up (pc' := 102) (st' := [zi x96]) (fun _ _ k => x_callVK (ci := 4) (as := [zi (mI (sI (sI (sI M13 x6 7 (zOr (mI M13 x6 7) (zShl 1 a2))) x6 5 ((mI (sI M13 x6 7 (zOr (mI M13 x6 7) (zShl 1 a2))) x6 5) + 1)) x6 6 ((mI (sI (sI M13 x6 7 (zOr (mI M13 x6 7) (zShl 1 a2))) x6 5 ((mI (sI M13 x6 7 (zOr (mI M13 x6 7) (zShl 1 a2))) x6 5) + 1)) x6 6) + 1)) x6 3)]) (st := []) hK94 k4_kindOf lm6_179 dX6_take_99 rfl (by decide) (zs8 rfl) h0.2.2.2.2.2.2.2.2.2.2.2.1.1 ⟨_, _, rfl⟩ hc98 k) ?_
      refine Xv.up (pc' := 104) (L' := [some (zr o), some (zr a1), some (zi a2), some (zr x2), some (zr x6), some (zi (mI M5 x2 4)), some (zi (mI (sI (sI (sI M13 x6 7 (zOr (mI M13 x6 7) (zShl 1 a2))) x6 5 ((mI (sI M13 x6 7 (zOr (mI M13 x6 7) (zShl 1 a2))) x6 5) + 1)) x6 6 ((mI (sI (sI M13 x6 7 (zOr (mI M13 x6 7) (zShl 1 a2))) x6 5 ((mI (sI M13 x6 7 (zOr (mI M13 x6 7) (zShl 1 a2))) x6 5) + 1)) x6 6) + 1)) x6 3)), some (zi x96), none]) (fun _ _ k => x_istore dX6_take_102 (by decide) rfl k) ?_
      refine Xv.up (pc' := 106) (fun _ _ k => x_iload dX6_take_104 rfl k) ?_
      refine Xv.up (pc' := 107) (fun _ _ k => x_iconst dX6_take_106 (show inR 5 from ⟨by decide, by decide⟩) k) ?_
      refine Xv.br (tgt := 142) (pc' := 110) (x96 ≠ 5) (fun _ _ kt kf => x_icmp_ne dX6_take_107 rfl kt kf) (fun c => ?_) (fun c => ?_)
      · have h := h.1 c
        refine Xv.up (pc' := 144) (fun _ _ k => x_iload dX6_take_142 rfl k) ?_
        refine Xv.up (pc' := 145) (fun _ _ k => x_iconst dX6_take_144 (show inR 3 from ⟨by decide, by decide⟩) k) ?_
        refine Xv.br (tgt := 158) (pc' := 148) (x96 ≠ 3) (fun _ _ kt kf => x_icmp_ne dX6_take_145 rfl kt kf) (fun c => ?_) (fun c => ?_)
        · have h := h.1 c
          refine Xv.up (pc' := 159) (fun _ _ k => x_aload_n dX6_take_158 rfl rfl k) ?_
          refine Xv.up (pc' := 161) (fun _ _ k => x_iload dX6_take_159 rfl k) ?_
          obtain ⟨x100, M99, hc102, hK101, h⟩ := h
          refine Xv.up (pc' := 164) (st' := [zi x100]) (fun _ _ k => x_callVK (ci := 2) (as := [zi (mI M5 x2 4)]) (st := []) hK97 k2_amongAt lm6_196 dX6_take_161 rfl (by decide) (zs8 rfl) g9.1 ⟨_, _, rfl⟩ hc102 k) ?_
          refine Xv.up (pc' := 166) (L' := [some (zr o), some (zr a1), some (zi a2), some (zr x2), some (zr x6), some (zi (mI M5 x2 4)), some (zi (mI (sI (sI (sI M13 x6 7 (zOr (mI M13 x6 7) (zShl 1 a2))) x6 5 ((mI (sI M13 x6 7 (zOr (mI M13 x6 7) (zShl 1 a2))) x6 5) + 1)) x6 6 ((mI (sI (sI M13 x6 7 (zOr (mI M13 x6 7) (zShl 1 a2))) x6 5 ((mI (sI M13 x6 7 (zOr (mI M13 x6 7) (zShl 1 a2))) x6 5) + 1)) x6 6) + 1)) x6 3)), some (zi x96), some (zi x100)]) (fun _ _ k => x_istore dX6_take_164 (by decide) rfl k) ?_
          refine Xv.up (pc' := 168) (fun _ _ k => x_aload dX6_take_166 rfl k) ?_
          refine Xv.up (pc' := 169) (fun _ _ k => x_aload_n dX6_take_168 rfl rfl k) ?_
          refine Xv.up (pc' := 172) (fun _ _ k => x_getRK hK101 lf6_12 rfl dX6_take_169 h0.1 h0.2.1 k) ?_
          refine Xv.up (pc' := 174) (fun _ _ k => x_iload dX6_take_172 rfl k) ?_
          obtain ⟨x104, M103, hc106, hK105, h⟩ := h
          refine Xv.up (pc' := 177) (st' := [zi x104, zr x6]) (fun _ _ k => x_callVK (ci := 4) (as := [zi (mI (sI (sI (sI M13 x6 7 (zOr (mI M13 x6 7) (zShl 1 a2))) x6 5 ((mI (sI M13 x6 7 (zOr (mI M13 x6 7) (zShl 1 a2))) x6 5) + 1)) x6 6 ((mI (sI (sI M13 x6 7 (zOr (mI M13 x6 7) (zShl 1 a2))) x6 5 ((mI (sI M13 x6 7 (zOr (mI M13 x6 7) (zShl 1 a2))) x6 5) + 1)) x6 6) + 1)) x6 3)]) (st := [zr x6]) hK101 k4_detailOf lm6_199 dX6_take_174 rfl (by decide) (zs8 rfl) h0.2.2.2.2.2.2.2.2.2.2.2.1.1 ⟨_, _, rfl⟩ hc106 k) ?_
          refine Xv.up (pc' := 179) (fun _ _ k => x_iload dX6_take_177 rfl k) ?_
          obtain ⟨M107, hc109, hK108, h⟩ := h
          refine Xv.up (pc' := 182) (st' := []) (fun _ _ k => x_callVK (ci := 8) (as := [zi x104, zi x100]) (st := []) hK105 k8_setValue lm6_202 dX6_take_179 rfl (by decide) (zs8 rfl) g12.1 ⟨_, _, rfl⟩ hc109 k) ?_
          refine Xv.up (pc' := 184) (fun _ _ k => x_aload dX6_take_182 rfl k) ?_
          refine Xv.up (pc' := 185) (fun _ _ k => x_aload_n dX6_take_184 rfl rfl k) ?_
          refine Xv.up (pc' := 188) (fun _ _ k => x_getRK hK108 lf6_12 rfl dX6_take_185 h0.1 h0.2.1 k) ?_
          refine Xv.up (pc' := 190) (fun _ _ k => x_iload dX6_take_188 rfl k) ?_
          obtain ⟨x111, M110, hc113, hK112, h⟩ := h
          refine Xv.up (pc' := 193) (st' := [zi x111, zr x6]) (fun _ _ k => x_callVK (ci := 4) (as := [zi (mI (sI (sI (sI M13 x6 7 (zOr (mI M13 x6 7) (zShl 1 a2))) x6 5 ((mI (sI M13 x6 7 (zOr (mI M13 x6 7) (zShl 1 a2))) x6 5) + 1)) x6 6 ((mI (sI (sI M13 x6 7 (zOr (mI M13 x6 7) (zShl 1 a2))) x6 5 ((mI (sI M13 x6 7 (zOr (mI M13 x6 7) (zShl 1 a2))) x6 5) + 1)) x6 6) + 1)) x6 3)]) (st := [zr x6]) hK108 k4_behind lm6_161 dX6_take_190 rfl (by decide) (zs8 rfl) h0.2.2.2.2.2.2.2.2.2.2.2.1.1 ⟨_, _, rfl⟩ hc113 k) ?_
          refine Xv.up (pc' := 196) (fun _ _ k => x_putIK hK112 lf6_120 rfl rfl (Or.inl rfl) dX6_take_193 g12.1 k) ?_
          have hK114 := KW.sI hK112 x6 3 x111
          refine Xv.up (pc' := 197) (fun _ _ k => x_aload_n dX6_take_196 rfl rfl k) ?_
          obtain ⟨x116, M115, hc118, hK117, h⟩ := h
          refine Xv.up (pc' := 200) (st' := [zi x116]) (fun _ _ k => x_callVK (ci := 2) (as := []) (st := []) hK114 k2_left lm6_205 dX6_take_197 rfl (by decide) (zs8 rfl) g9.1 ⟨_, _, rfl⟩ hc118 k) ?_
          refine Xv.br (tgt := 210) (pc' := 203) (0 < x116) (fun _ _ kt kf => x_if_gt dX6_take_200 rfl kt kf) (fun c => ?_) (fun c => ?_)
          · have h := h.1 c
            refine Xv.up (pc' := 211) (fun _ _ k => x_aload_n dX6_take_210 rfl rfl k) ?_
            refine Xv.up (pc' := 212) (fun _ _ k => x_iconst dX6_take_211 (show inR 1 from ⟨by decide, by decide⟩) k) ?_
            refine Xv.up (pc' := 215) (fun _ _ k => x_putIK hK117 lf6_77 rfl rfl (Or.inr (Or.inr rfl)) dX6_take_212 h0.1 k) ?_
            have hK119 := KW.sI hK117 o 12 1
            exact Xv.ret ⟨dX6_take_215, rfl⟩ h
          · have h := h.2 c
            refine Xv.up (pc' := 204) (fun _ _ k => x_aload_n dX6_take_203 rfl rfl k) ?_
            refine Xv.up (pc' := 205) (fun _ _ k => x_iload_n dX6_take_204 rfl rfl k) ?_
            refine Xv.up (pc' := 207) (fun _ _ k => x_aload dX6_take_205 rfl k) ?_
            obtain ⟨M120, hc122, hK121, h⟩ := h
            refine Xv.up (pc' := 210) (st' := []) (fun _ _ k => x_callVK (ci := 3) (as := [zi a2, zr x6]) (st := []) hK117 k3_remove lm6_208 dX6_take_207 rfl (by decide) (zs8 rfl) h1.1 ⟨_, _, rfl⟩ hc122 k) ?_
            refine Xv.up (pc' := 211) (fun _ _ k => x_aload_n dX6_take_210 rfl rfl k) ?_
            refine Xv.up (pc' := 212) (fun _ _ k => x_iconst dX6_take_211 (show inR 1 from ⟨by decide, by decide⟩) k) ?_
            refine Xv.up (pc' := 215) (fun _ _ k => x_putIK hK121 lf6_77 rfl rfl (Or.inr (Or.inr rfl)) dX6_take_212 h0.1 k) ?_
            have hK123 := KW.sI hK121 o 12 1
            exact Xv.ret ⟨dX6_take_215, rfl⟩ h
        · have h := h.2 c
          refine Xv.up (pc' := 149) (fun _ _ k => x_aload_n dX6_take_148 rfl rfl k) ?_
          refine Xv.up (pc' := 152) (fun _ _ k => x_getIK hK97 lf6_193 rfl dX6_take_149 g9.1 k) ?_
          refine Xv.up (pc' := 154) (fun _ _ k => x_iload dX6_take_152 rfl k) ?_
          obtain ⟨g124, h⟩ := h
          refine Xv.up (pc' := 155) (fun _ _ k => x_iadd dX6_take_154 g124 k) ?_
          refine Xv.up (pc' := 164) (fun _ _ k => x_goto dX6_take_155 rfl k) ?_
          refine Xv.up (pc' := 166) (L' := [some (zr o), some (zr a1), some (zi a2), some (zr x2), some (zr x6), some (zi (mI M5 x2 4)), some (zi (mI (sI (sI (sI M13 x6 7 (zOr (mI M13 x6 7) (zShl 1 a2))) x6 5 ((mI (sI M13 x6 7 (zOr (mI M13 x6 7) (zShl 1 a2))) x6 5) + 1)) x6 6 ((mI (sI (sI M13 x6 7 (zOr (mI M13 x6 7) (zShl 1 a2))) x6 5 ((mI (sI M13 x6 7 (zOr (mI M13 x6 7) (zShl 1 a2))) x6 5) + 1)) x6 6) + 1)) x6 3)), some (zi x96), some (zi ((mI M95 x2 2) + (mI M5 x2 4)))]) (fun _ _ k => x_istore dX6_take_164 (by decide) rfl k) ?_
          refine Xv.up (pc' := 168) (fun _ _ k => x_aload dX6_take_166 rfl k) ?_
          refine Xv.up (pc' := 169) (fun _ _ k => x_aload_n dX6_take_168 rfl rfl k) ?_
          refine Xv.up (pc' := 172) (fun _ _ k => x_getRK hK97 lf6_12 rfl dX6_take_169 h0.1 h0.2.1 k) ?_
          refine Xv.up (pc' := 174) (fun _ _ k => x_iload dX6_take_172 rfl k) ?_
          obtain ⟨x126, M125, hc128, hK127, h⟩ := h
          refine Xv.up (pc' := 177) (st' := [zi x126, zr x6]) (fun _ _ k => x_callVK (ci := 4) (as := [zi (mI (sI (sI (sI M13 x6 7 (zOr (mI M13 x6 7) (zShl 1 a2))) x6 5 ((mI (sI M13 x6 7 (zOr (mI M13 x6 7) (zShl 1 a2))) x6 5) + 1)) x6 6 ((mI (sI (sI M13 x6 7 (zOr (mI M13 x6 7) (zShl 1 a2))) x6 5 ((mI (sI M13 x6 7 (zOr (mI M13 x6 7) (zShl 1 a2))) x6 5) + 1)) x6 6) + 1)) x6 3)]) (st := [zr x6]) hK97 k4_detailOf lm6_199 dX6_take_174 rfl (by decide) (zs8 rfl) h0.2.2.2.2.2.2.2.2.2.2.2.1.1 ⟨_, _, rfl⟩ hc128 k) ?_
          refine Xv.up (pc' := 179) (fun _ _ k => x_iload dX6_take_177 rfl k) ?_
          obtain ⟨M129, hc131, hK130, h⟩ := h
          refine Xv.up (pc' := 182) (st' := []) (fun _ _ k => x_callVK (ci := 8) (as := [zi x126, zi ((mI M95 x2 2) + (mI M5 x2 4))]) (st := []) hK127 k8_setValue lm6_202 dX6_take_179 rfl (by decide) (zs8 rfl) g12.1 ⟨_, _, rfl⟩ hc131 k) ?_
          refine Xv.up (pc' := 184) (fun _ _ k => x_aload dX6_take_182 rfl k) ?_
          refine Xv.up (pc' := 185) (fun _ _ k => x_aload_n dX6_take_184 rfl rfl k) ?_
          refine Xv.up (pc' := 188) (fun _ _ k => x_getRK hK130 lf6_12 rfl dX6_take_185 h0.1 h0.2.1 k) ?_
          refine Xv.up (pc' := 190) (fun _ _ k => x_iload dX6_take_188 rfl k) ?_
          obtain ⟨x133, M132, hc135, hK134, h⟩ := h
          refine Xv.up (pc' := 193) (st' := [zi x133, zr x6]) (fun _ _ k => x_callVK (ci := 4) (as := [zi (mI (sI (sI (sI M13 x6 7 (zOr (mI M13 x6 7) (zShl 1 a2))) x6 5 ((mI (sI M13 x6 7 (zOr (mI M13 x6 7) (zShl 1 a2))) x6 5) + 1)) x6 6 ((mI (sI (sI M13 x6 7 (zOr (mI M13 x6 7) (zShl 1 a2))) x6 5 ((mI (sI M13 x6 7 (zOr (mI M13 x6 7) (zShl 1 a2))) x6 5) + 1)) x6 6) + 1)) x6 3)]) (st := [zr x6]) hK130 k4_behind lm6_161 dX6_take_190 rfl (by decide) (zs8 rfl) h0.2.2.2.2.2.2.2.2.2.2.2.1.1 ⟨_, _, rfl⟩ hc135 k) ?_
          refine Xv.up (pc' := 196) (fun _ _ k => x_putIK hK134 lf6_120 rfl rfl (Or.inl rfl) dX6_take_193 g12.1 k) ?_
          have hK136 := KW.sI hK134 x6 3 x133
          refine Xv.up (pc' := 197) (fun _ _ k => x_aload_n dX6_take_196 rfl rfl k) ?_
          obtain ⟨x138, M137, hc140, hK139, h⟩ := h
          refine Xv.up (pc' := 200) (st' := [zi x138]) (fun _ _ k => x_callVK (ci := 2) (as := []) (st := []) hK136 k2_left lm6_205 dX6_take_197 rfl (by decide) (zs8 rfl) g9.1 ⟨_, _, rfl⟩ hc140 k) ?_
          refine Xv.br (tgt := 210) (pc' := 203) (0 < x138) (fun _ _ kt kf => x_if_gt dX6_take_200 rfl kt kf) (fun c => ?_) (fun c => ?_)
          · have h := h.1 c
            refine Xv.up (pc' := 211) (fun _ _ k => x_aload_n dX6_take_210 rfl rfl k) ?_
            refine Xv.up (pc' := 212) (fun _ _ k => x_iconst dX6_take_211 (show inR 1 from ⟨by decide, by decide⟩) k) ?_
            refine Xv.up (pc' := 215) (fun _ _ k => x_putIK hK139 lf6_77 rfl rfl (Or.inr (Or.inr rfl)) dX6_take_212 h0.1 k) ?_
            have hK141 := KW.sI hK139 o 12 1
            exact Xv.ret ⟨dX6_take_215, rfl⟩ h
          · have h := h.2 c
            refine Xv.up (pc' := 204) (fun _ _ k => x_aload_n dX6_take_203 rfl rfl k) ?_
            refine Xv.up (pc' := 205) (fun _ _ k => x_iload_n dX6_take_204 rfl rfl k) ?_
            refine Xv.up (pc' := 207) (fun _ _ k => x_aload dX6_take_205 rfl k) ?_
            obtain ⟨M142, hc144, hK143, h⟩ := h
            refine Xv.up (pc' := 210) (st' := []) (fun _ _ k => x_callVK (ci := 3) (as := [zi a2, zr x6]) (st := []) hK139 k3_remove lm6_208 dX6_take_207 rfl (by decide) (zs8 rfl) h1.1 ⟨_, _, rfl⟩ hc144 k) ?_
            refine Xv.up (pc' := 211) (fun _ _ k => x_aload_n dX6_take_210 rfl rfl k) ?_
            refine Xv.up (pc' := 212) (fun _ _ k => x_iconst dX6_take_211 (show inR 1 from ⟨by decide, by decide⟩) k) ?_
            refine Xv.up (pc' := 215) (fun _ _ k => x_putIK hK143 lf6_77 rfl rfl (Or.inr (Or.inr rfl)) dX6_take_212 h0.1 k) ?_
            have hK145 := KW.sI hK143 o 12 1
            exact Xv.ret ⟨dX6_take_215, rfl⟩ h
      · have h := h.2 c
        refine Xv.up (pc' := 112) (fun _ _ k => x_aload dX6_take_110 rfl k) ?_
        refine Xv.up (pc' := 114) (fun _ _ k => x_iload dX6_take_112 rfl k) ?_
        refine Xv.up (pc' := 115) (fun _ _ k => x_aload_n dX6_take_114 rfl rfl k) ?_
        refine Xv.up (pc' := 118) (fun _ _ k => x_getRK hK97 lf6_12 rfl dX6_take_115 h0.1 h0.2.1 k) ?_
        refine Xv.up (pc' := 120) (fun _ _ k => x_iload dX6_take_118 rfl k) ?_
        refine Xv.up (pc' := 122) (fun _ _ k => x_iload dX6_take_120 rfl k) ?_
        obtain ⟨x147, M146, hc149, hK148, h⟩ := h
        refine Xv.up (pc' := 125) (st' := [zi x147, zi (mI (sI (sI (sI M13 x6 7 (zOr (mI M13 x6 7) (zShl 1 a2))) x6 5 ((mI (sI M13 x6 7 (zOr (mI M13 x6 7) (zShl 1 a2))) x6 5) + 1)) x6 6 ((mI (sI (sI M13 x6 7 (zOr (mI M13 x6 7) (zShl 1 a2))) x6 5 ((mI (sI M13 x6 7 (zOr (mI M13 x6 7) (zShl 1 a2))) x6 5) + 1)) x6 6) + 1)) x6 3), zr x6]) (fun _ _ k => x_callVK (ci := 4) (as := [zi (mI (sI (sI (sI M13 x6 7 (zOr (mI M13 x6 7) (zShl 1 a2))) x6 5 ((mI (sI M13 x6 7 (zOr (mI M13 x6 7) (zShl 1 a2))) x6 5) + 1)) x6 6 ((mI (sI (sI M13 x6 7 (zOr (mI M13 x6 7) (zShl 1 a2))) x6 5 ((mI (sI M13 x6 7 (zOr (mI M13 x6 7) (zShl 1 a2))) x6 5) + 1)) x6 6) + 1)) x6 3), zi (mI M5 x2 4)]) (st := [zi (mI (sI (sI (sI M13 x6 7 (zOr (mI M13 x6 7) (zShl 1 a2))) x6 5 ((mI (sI M13 x6 7 (zOr (mI M13 x6 7) (zShl 1 a2))) x6 5) + 1)) x6 6 ((mI (sI (sI M13 x6 7 (zOr (mI M13 x6 7) (zShl 1 a2))) x6 5 ((mI (sI M13 x6 7 (zOr (mI M13 x6 7) (zShl 1 a2))) x6 5) + 1)) x6 6) + 1)) x6 3), zr x6]) hK97 k4_partFirst lm6_182 dX6_take_122 rfl (by decide) (zs8 rfl) h0.2.2.2.2.2.2.2.2.2.2.2.1.1 ⟨_, _, rfl⟩ hc149 k) ?_
        refine Xv.up (pc' := 126) (fun _ _ k => x_aload_n dX6_take_125 rfl rfl k) ?_
        refine Xv.up (pc' := 129) (fun _ _ k => x_getRK hK148 lf6_12 rfl dX6_take_126 h0.1 h0.2.1 k) ?_
        refine Xv.up (pc' := 131) (fun _ _ k => x_iload dX6_take_129 rfl k) ?_
        obtain ⟨x151, M150, hc153, hK152, h⟩ := h
        refine Xv.up (pc' := 134) (st' := [zi x151, zi x147, zi (mI (sI (sI (sI M13 x6 7 (zOr (mI M13 x6 7) (zShl 1 a2))) x6 5 ((mI (sI M13 x6 7 (zOr (mI M13 x6 7) (zShl 1 a2))) x6 5) + 1)) x6 6 ((mI (sI (sI M13 x6 7 (zOr (mI M13 x6 7) (zShl 1 a2))) x6 5 ((mI (sI M13 x6 7 (zOr (mI M13 x6 7) (zShl 1 a2))) x6 5) + 1)) x6 6) + 1)) x6 3), zr x6]) (fun _ _ k => x_callVK (ci := 4) (as := [zi (mI (sI (sI (sI M13 x6 7 (zOr (mI M13 x6 7) (zShl 1 a2))) x6 5 ((mI (sI M13 x6 7 (zOr (mI M13 x6 7) (zShl 1 a2))) x6 5) + 1)) x6 6 ((mI (sI (sI M13 x6 7 (zOr (mI M13 x6 7) (zShl 1 a2))) x6 5 ((mI (sI M13 x6 7 (zOr (mI M13 x6 7) (zShl 1 a2))) x6 5) + 1)) x6 6) + 1)) x6 3)]) (st := [zi x147, zi (mI (sI (sI (sI M13 x6 7 (zOr (mI M13 x6 7) (zShl 1 a2))) x6 5 ((mI (sI M13 x6 7 (zOr (mI M13 x6 7) (zShl 1 a2))) x6 5) + 1)) x6 6 ((mI (sI (sI M13 x6 7 (zOr (mI M13 x6 7) (zShl 1 a2))) x6 5 ((mI (sI M13 x6 7 (zOr (mI M13 x6 7) (zShl 1 a2))) x6 5) + 1)) x6 6) + 1)) x6 3), zr x6]) hK148 k4_levelOf lm6_186 dX6_take_131 rfl (by decide) (zs8 rfl) h0.2.2.2.2.2.2.2.2.2.2.2.1.1 ⟨_, _, rfl⟩ hc153 k) ?_
        refine Xv.up (pc' := 135) (fun _ _ k => x_iconst dX6_take_134 (show inR 1 from ⟨by decide, by decide⟩) k) ?_
        obtain ⟨g154, h⟩ := h
        refine Xv.up (pc' := 136) (fun _ _ k => x_iadd dX6_take_135 g154 k) ?_
        obtain ⟨M155, hc157, hK156, h⟩ := h
        refine Xv.up (pc' := 139) (st' := []) (fun _ _ k => x_callVK (ci := 8) (as := [zi (mI (sI (sI (sI M13 x6 7 (zOr (mI M13 x6 7) (zShl 1 a2))) x6 5 ((mI (sI M13 x6 7 (zOr (mI M13 x6 7) (zShl 1 a2))) x6 5) + 1)) x6 6 ((mI (sI (sI M13 x6 7 (zOr (mI M13 x6 7) (zShl 1 a2))) x6 5 ((mI (sI M13 x6 7 (zOr (mI M13 x6 7) (zShl 1 a2))) x6 5) + 1)) x6 6) + 1)) x6 3), zi x147, zi (x151 + 1)]) (st := []) hK152 k8_enter lm6_189 dX6_take_136 rfl (by decide) (zs8 rfl) g12.1 ⟨_, _, rfl⟩ hc157 k) ?_
        refine Xv.up (pc' := 196) (fun _ _ k => x_goto dX6_take_139 rfl k) ?_
        refine Xv.up (pc' := 197) (fun _ _ k => x_aload_n dX6_take_196 rfl rfl k) ?_
        obtain ⟨x159, M158, hc161, hK160, h⟩ := h
        refine Xv.up (pc' := 200) (st' := [zi x159]) (fun _ _ k => x_callVK (ci := 2) (as := []) (st := []) hK156 k2_left lm6_205 dX6_take_197 rfl (by decide) (zs8 rfl) g9.1 ⟨_, _, rfl⟩ hc161 k) ?_
        refine Xv.br (tgt := 210) (pc' := 203) (0 < x159) (fun _ _ kt kf => x_if_gt dX6_take_200 rfl kt kf) (fun c => ?_) (fun c => ?_)
        · have h := h.1 c
          refine Xv.up (pc' := 211) (fun _ _ k => x_aload_n dX6_take_210 rfl rfl k) ?_
          refine Xv.up (pc' := 212) (fun _ _ k => x_iconst dX6_take_211 (show inR 1 from ⟨by decide, by decide⟩) k) ?_
          refine Xv.up (pc' := 215) (fun _ _ k => x_putIK hK160 lf6_77 rfl rfl (Or.inr (Or.inr rfl)) dX6_take_212 h0.1 k) ?_
          have hK162 := KW.sI hK160 o 12 1
          exact Xv.ret ⟨dX6_take_215, rfl⟩ h
        · have h := h.2 c
          refine Xv.up (pc' := 204) (fun _ _ k => x_aload_n dX6_take_203 rfl rfl k) ?_
          refine Xv.up (pc' := 205) (fun _ _ k => x_iload_n dX6_take_204 rfl rfl k) ?_
          refine Xv.up (pc' := 207) (fun _ _ k => x_aload dX6_take_205 rfl k) ?_
          obtain ⟨M163, hc165, hK164, h⟩ := h
          refine Xv.up (pc' := 210) (st' := []) (fun _ _ k => x_callVK (ci := 3) (as := [zi a2, zr x6]) (st := []) hK160 k3_remove lm6_208 dX6_take_207 rfl (by decide) (zs8 rfl) h1.1 ⟨_, _, rfl⟩ hc165 k) ?_
          refine Xv.up (pc' := 211) (fun _ _ k => x_aload_n dX6_take_210 rfl rfl k) ?_
          refine Xv.up (pc' := 212) (fun _ _ k => x_iconst dX6_take_211 (show inR 1 from ⟨by decide, by decide⟩) k) ?_
          refine Xv.up (pc' := 215) (fun _ _ k => x_putIK hK164 lf6_77 rfl rfl (Or.inr (Or.inr rfl)) dX6_take_212 h0.1 k) ?_
          have hK166 := KW.sI hK164 o 12 1
          exact Xv.ret ⟨dX6_take_215, rfl⟩ h
  · have h := h.2 c
    exact Xv.ret ⟨dX6_take_10, rfl⟩ h
set_option maxHeartbeats 4000000 in
set_option maxRecDepth 20000 in
theorem B6_endPart {d : Nat} {K M : ZMem} {Q : Int → ZMem → Prop} (o : Nat) (a1 : Nat) (hK : KW K M) (h0 : SearchAt K o) (h1 : WayAt K a1) (h : Ci d q4_kindOf [zr (o + 1), zi (mI M a1 4)] M (fun x2 M1 => KW K M1 ∧ Ci d q4_levelOf [zr (o + 1), zi (mI M a1 4)] M1 (fun x6 M5 => KW K M5 ∧ (inR (x6 + 1)) ∧ (((mI M a1 4) = (-1) → (Ci d q6_through [zr o, zr a1] M5 (fun x11 M10 => KW K M10 ∧ Q x11 M10))) ∧ (¬ ((mI M a1 4) = (-1)) → ((x2 ≠ 7 → ((x2 ≠ 9 → ((x2 ≠ 6 → (Ci d q4_around [zr (o + 1), zi (mI M a1 4)] M5 (fun x15 M14 => KW K M14 ∧ Ci d q4_behind [zr (o + 1), zi (mI M a1 4)] (sI M14 a1 4 x15) (fun x20 M19 => KW K M19 ∧ Q 0 (sI M19 a1 3 x20))))) ∧ (¬ (x2 ≠ 6) → (Ci d q8_markAt [zr a1, zi (x6 + 1)] M5 (fun x25 M24 => KW K M24 ∧ Cv d q6_drop [zr o, zr a1, zi x25] M24 (fun M28 => KW K M28 ∧ Ci d q4_around [zr (o + 1), zi (mI M a1 4)] M28 (fun x32 M31 => KW K M31 ∧ Ci d q4_behind [zr (o + 1), zi (mI M a1 4)] (sI M31 a1 4 x32) (fun x37 M36 => KW K M36 ∧ Q 0 (sI M36 a1 3 x37))))))))) ∧ (¬ (x2 ≠ 9) → (Ci d q8_roundsAt [zr a1, zi (x6 + 1)] M5 (fun x42 M41 => KW K M41 ∧ ((x42 ≤ 0 → ((x2 ≠ 6 → (Ci d q4_around [zr (o + 1), zi (mI M a1 4)] M41 (fun x46 M45 => KW K M45 ∧ Ci d q4_behind [zr (o + 1), zi (mI M a1 4)] (sI M45 a1 4 x46) (fun x51 M50 => KW K M50 ∧ Q 0 (sI M50 a1 3 x51))))) ∧ (¬ (x2 ≠ 6) → (Ci d q8_markAt [zr a1, zi (x6 + 1)] M41 (fun x56 M55 => KW K M55 ∧ Cv d q6_drop [zr o, zr a1, zi x56] M55 (fun M59 => KW K M59 ∧ Ci d q4_around [zr (o + 1), zi (mI M a1 4)] M59 (fun x63 M62 => KW K M62 ∧ Ci d q4_behind [zr (o + 1), zi (mI M a1 4)] (sI M62 a1 4 x63) (fun x68 M67 => KW K M67 ∧ Q 0 (sI M67 a1 3 x68))))))))) ∧ (¬ (x42 ≤ 0) → (Ci d q6_spend [zr o] M41 (fun x73 M72 => KW K M72 ∧ ((x73 ≠ 0 → (Ci d q8_roundsAt [zr a1, zi (x6 + 1)] M72 (fun x77 M76 => KW K M76 ∧ (inR (x77 - 1)) ∧ Cv d q8_setRounds [zr a1, zi (x6 + 1), zi (x77 - 1)] M76 (fun M81 => KW K M81 ∧ Ci d q4_partFirst [zr (o + 1), zi (mI M a1 4), zi 0] M81 (fun x85 M84 => KW K M84 ∧ Cv d q8_enter [zr a1, zi (mI M a1 4), zi x85, zi (x6 + 1)] M84 (fun M88 => KW K M88 ∧ Q 0 M88)))))) ∧ (¬ (x73 ≠ 0) → (Q 2 M72)))))))))))) ∧ (¬ (x2 ≠ 7) → (Ci d q6_through [zr o, zr a1] M5 (fun x92 M91 => KW K M91 ∧ Q x92 M91))))))))) : Ci (d + 1) q6_endPart [zr o, zr a1] M Q := by
  refine Ci.of rfl rfl (Nat.le_of_ble_eq_true rfl) (fun w hw x e => by subst e; simp at hw) (L := [some (zr o), some (zr a1), none, none, none]) rfl ?_
  refine Xi.up (pc' := 1) (fun _ _ k => x_aload_n dX6_endPart_0 rfl rfl k) ?_
  refine Xi.up (pc' := 4) (fun _ _ k => x_getIK hK lf6_212 rfl dX6_endPart_1 h1.1 k) ?_
  refine Xi.up (pc' := 5) (L' := [some (zr o), some (zr a1), some (zi (mI M a1 4)), none, none]) (fun _ _ k => x_istore_n dX6_endPart_4 rfl (by decide) rfl k) ?_
  refine Xi.up (pc' := 6) (fun _ _ k => x_aload_n dX6_endPart_5 rfl rfl k) ?_
  refine Xi.up (pc' := 9) (fun _ _ k => x_getRK hK lf6_12 rfl dX6_endPart_6 h0.1 h0.2.1 k) ?_
  refine Xi.up (pc' := 10) (fun _ _ k => x_iload_n dX6_endPart_9 rfl rfl k) ?_
  obtain ⟨x2, M1, hc4, hK3, h⟩ := h
  refine Xi.up (pc' := 13) (st' := [zi x2]) (fun _ _ k => x_callVK (ci := 4) (as := [zi (mI M a1 4)]) (st := []) hK k4_kindOf lm6_179 dX6_endPart_10 rfl (by decide) (zs8 rfl) h0.2.2.2.2.2.2.2.2.2.2.2.1.1 ⟨_, _, rfl⟩ hc4 k) ?_
  refine Xi.up (pc' := 14) (L' := [some (zr o), some (zr a1), some (zi (mI M a1 4)), some (zi x2), none]) (fun _ _ k => x_istore_n dX6_endPart_13 rfl (by decide) rfl k) ?_
  refine Xi.up (pc' := 15) (fun _ _ k => x_aload_n dX6_endPart_14 rfl rfl k) ?_
  refine Xi.up (pc' := 18) (fun _ _ k => x_getRK hK3 lf6_12 rfl dX6_endPart_15 h0.1 h0.2.1 k) ?_
  refine Xi.up (pc' := 19) (fun _ _ k => x_iload_n dX6_endPart_18 rfl rfl k) ?_
  obtain ⟨x6, M5, hc8, hK7, h⟩ := h
  refine Xi.up (pc' := 22) (st' := [zi x6]) (fun _ _ k => x_callVK (ci := 4) (as := [zi (mI M a1 4)]) (st := []) hK3 k4_levelOf lm6_186 dX6_endPart_19 rfl (by decide) (zs8 rfl) h0.2.2.2.2.2.2.2.2.2.2.2.1.1 ⟨_, _, rfl⟩ hc8 k) ?_
  refine Xi.up (pc' := 23) (fun _ _ k => x_iconst dX6_endPart_22 (show inR 1 from ⟨by decide, by decide⟩) k) ?_
  obtain ⟨g9, h⟩ := h
  refine Xi.up (pc' := 24) (fun _ _ k => x_iadd dX6_endPart_23 g9 k) ?_
  refine Xi.up (pc' := 26) (L' := [some (zr o), some (zr a1), some (zi (mI M a1 4)), some (zi x2), some (zi (x6 + 1))]) (fun _ _ k => x_istore dX6_endPart_24 (by decide) rfl k) ?_
  refine Xi.up (pc' := 27) (fun _ _ k => x_iload_n dX6_endPart_26 rfl rfl k) ?_
  refine Xi.up (pc' := 28) (fun _ _ k => x_iconst dX6_endPart_27 (show inR (-1) from ⟨by decide, by decide⟩) k) ?_
  refine Xi.br (tgt := 37) (pc' := 31) ((mI M a1 4) = (-1)) (fun _ _ kt kf => x_icmp_eq dX6_endPart_28 rfl kt kf) (fun c => ?_) (fun c => ?_)
  · have h := h.1 c
    refine Xi.up (pc' := 38) (fun _ _ k => x_aload_n dX6_endPart_37 rfl rfl k) ?_
    refine Xi.up (pc' := 39) (fun _ _ k => x_aload_n dX6_endPart_38 rfl rfl k) ?_
    obtain ⟨x11, M10, hc13, hK12, h⟩ := h
    refine Xi.up (pc' := 42) (st' := [zi x11]) (fun _ _ k => x_callVK (ci := 6) (as := [zr a1]) (st := []) hK7 k6_through lm6_215 dX6_endPart_39 rfl (by decide) (zs8 rfl) h0.1 ⟨_, _, rfl⟩ hc13 k) ?_
    exact Xi.ret ⟨dX6_endPart_42, Or.inl rfl⟩ h
  · have h := h.2 c
    refine Xi.up (pc' := 32) (fun _ _ k => x_iload_n dX6_endPart_31 rfl rfl k) ?_
    refine Xi.up (pc' := 34) (fun _ _ k => x_bipush dX6_endPart_32 (show inR 7 from ⟨by decide, by decide⟩) (by decide) k) ?_
    refine Xi.br (tgt := 43) (pc' := 37) (x2 ≠ 7) (fun _ _ kt kf => x_icmp_ne dX6_endPart_34 rfl kt kf) (fun c => ?_) (fun c => ?_)
    · have h := h.1 c
      refine Xi.up (pc' := 44) (fun _ _ k => x_iload_n dX6_endPart_43 rfl rfl k) ?_
      refine Xi.up (pc' := 46) (fun _ _ k => x_bipush dX6_endPart_44 (show inR 9 from ⟨by decide, by decide⟩) (by decide) k) ?_
      refine Xi.br (tgt := 99) (pc' := 49) (x2 ≠ 9) (fun _ _ kt kf => x_icmp_ne dX6_endPart_46 rfl kt kf) (fun c => ?_) (fun c => ?_)
      · have h := h.1 c
        refine Xi.up (pc' := 100) (fun _ _ k => x_iload_n dX6_endPart_99 rfl rfl k) ?_
        refine Xi.up (pc' := 102) (fun _ _ k => x_bipush dX6_endPart_100 (show inR 6 from ⟨by decide, by decide⟩) (by decide) k) ?_
        refine Xi.br (tgt := 116) (pc' := 105) (x2 ≠ 6) (fun _ _ kt kf => x_icmp_ne dX6_endPart_102 rfl kt kf) (fun c => ?_) (fun c => ?_)
        · have h := h.1 c
          refine Xi.up (pc' := 117) (fun _ _ k => x_aload_n dX6_endPart_116 rfl rfl k) ?_
          refine Xi.up (pc' := 118) (fun _ _ k => x_aload_n dX6_endPart_117 rfl rfl k) ?_
          refine Xi.up (pc' := 121) (fun _ _ k => x_getRK hK7 lf6_12 rfl dX6_endPart_118 h0.1 h0.2.1 k) ?_
          refine Xi.up (pc' := 122) (fun _ _ k => x_iload_n dX6_endPart_121 rfl rfl k) ?_
          obtain ⟨x15, M14, hc17, hK16, h⟩ := h
          refine Xi.up (pc' := 125) (st' := [zi x15, zr a1]) (fun _ _ k => x_callVK (ci := 4) (as := [zi (mI M a1 4)]) (st := [zr a1]) hK7 k4_around lm6_231 dX6_endPart_122 rfl (by decide) (zs8 rfl) h0.2.2.2.2.2.2.2.2.2.2.2.1.1 ⟨_, _, rfl⟩ hc17 k) ?_
          refine Xi.up (pc' := 128) (fun _ _ k => x_putIK hK16 lf6_212 rfl rfl (Or.inl rfl) dX6_endPart_125 h1.1 k) ?_
          have hK18 := KW.sI hK16 a1 4 x15
          refine Xi.up (pc' := 129) (fun _ _ k => x_aload_n dX6_endPart_128 rfl rfl k) ?_
          refine Xi.up (pc' := 130) (fun _ _ k => x_aload_n dX6_endPart_129 rfl rfl k) ?_
          refine Xi.up (pc' := 133) (fun _ _ k => x_getRK hK18 lf6_12 rfl dX6_endPart_130 h0.1 h0.2.1 k) ?_
          refine Xi.up (pc' := 134) (fun _ _ k => x_iload_n dX6_endPart_133 rfl rfl k) ?_
          obtain ⟨x20, M19, hc22, hK21, h⟩ := h
          refine Xi.up (pc' := 137) (st' := [zi x20, zr a1]) (fun _ _ k => x_callVK (ci := 4) (as := [zi (mI M a1 4)]) (st := [zr a1]) hK18 k4_behind lm6_161 dX6_endPart_134 rfl (by decide) (zs8 rfl) h0.2.2.2.2.2.2.2.2.2.2.2.1.1 ⟨_, _, rfl⟩ hc22 k) ?_
          refine Xi.up (pc' := 140) (fun _ _ k => x_putIK hK21 lf6_120 rfl rfl (Or.inl rfl) dX6_endPart_137 h1.1 k) ?_
          have hK23 := KW.sI hK21 a1 3 x20
          refine Xi.up (pc' := 141) (fun _ _ k => x_iconst dX6_endPart_140 (show inR 0 from ⟨by decide, by decide⟩) k) ?_
          exact Xi.ret ⟨dX6_endPart_141, Or.inl rfl⟩ h
        · have h := h.2 c
          refine Xi.up (pc' := 106) (fun _ _ k => x_aload_n dX6_endPart_105 rfl rfl k) ?_
          refine Xi.up (pc' := 107) (fun _ _ k => x_aload_n dX6_endPart_106 rfl rfl k) ?_
          refine Xi.up (pc' := 108) (fun _ _ k => x_aload_n dX6_endPart_107 rfl rfl k) ?_
          refine Xi.up (pc' := 110) (fun _ _ k => x_iload dX6_endPart_108 rfl k) ?_
          obtain ⟨x25, M24, hc27, hK26, h⟩ := h
          refine Xi.up (pc' := 113) (st' := [zi x25, zr a1, zr o]) (fun _ _ k => x_callVK (ci := 8) (as := [zi (x6 + 1)]) (st := [zr a1, zr o]) hK7 k8_markAt lm6_224 dX6_endPart_110 rfl (by decide) (zs8 rfl) h1.1 ⟨_, _, rfl⟩ hc27 k) ?_
          obtain ⟨M28, hc30, hK29, h⟩ := h
          refine Xi.up (pc' := 116) (st' := []) (fun _ _ k => x_callVK (ci := 6) (as := [zr a1, zi x25]) (st := []) hK26 k6_drop lm6_227 dX6_endPart_113 rfl (by decide) (zs8 rfl) h0.1 ⟨_, _, rfl⟩ hc30 k) ?_
          refine Xi.up (pc' := 117) (fun _ _ k => x_aload_n dX6_endPart_116 rfl rfl k) ?_
          refine Xi.up (pc' := 118) (fun _ _ k => x_aload_n dX6_endPart_117 rfl rfl k) ?_
          refine Xi.up (pc' := 121) (fun _ _ k => x_getRK hK29 lf6_12 rfl dX6_endPart_118 h0.1 h0.2.1 k) ?_
          refine Xi.up (pc' := 122) (fun _ _ k => x_iload_n dX6_endPart_121 rfl rfl k) ?_
          obtain ⟨x32, M31, hc34, hK33, h⟩ := h
          refine Xi.up (pc' := 125) (st' := [zi x32, zr a1]) (fun _ _ k => x_callVK (ci := 4) (as := [zi (mI M a1 4)]) (st := [zr a1]) hK29 k4_around lm6_231 dX6_endPart_122 rfl (by decide) (zs8 rfl) h0.2.2.2.2.2.2.2.2.2.2.2.1.1 ⟨_, _, rfl⟩ hc34 k) ?_
          refine Xi.up (pc' := 128) (fun _ _ k => x_putIK hK33 lf6_212 rfl rfl (Or.inl rfl) dX6_endPart_125 h1.1 k) ?_
          have hK35 := KW.sI hK33 a1 4 x32
          refine Xi.up (pc' := 129) (fun _ _ k => x_aload_n dX6_endPart_128 rfl rfl k) ?_
          refine Xi.up (pc' := 130) (fun _ _ k => x_aload_n dX6_endPart_129 rfl rfl k) ?_
          refine Xi.up (pc' := 133) (fun _ _ k => x_getRK hK35 lf6_12 rfl dX6_endPart_130 h0.1 h0.2.1 k) ?_
          refine Xi.up (pc' := 134) (fun _ _ k => x_iload_n dX6_endPart_133 rfl rfl k) ?_
          obtain ⟨x37, M36, hc39, hK38, h⟩ := h
          refine Xi.up (pc' := 137) (st' := [zi x37, zr a1]) (fun _ _ k => x_callVK (ci := 4) (as := [zi (mI M a1 4)]) (st := [zr a1]) hK35 k4_behind lm6_161 dX6_endPart_134 rfl (by decide) (zs8 rfl) h0.2.2.2.2.2.2.2.2.2.2.2.1.1 ⟨_, _, rfl⟩ hc39 k) ?_
          refine Xi.up (pc' := 140) (fun _ _ k => x_putIK hK38 lf6_120 rfl rfl (Or.inl rfl) dX6_endPart_137 h1.1 k) ?_
          have hK40 := KW.sI hK38 a1 3 x37
          refine Xi.up (pc' := 141) (fun _ _ k => x_iconst dX6_endPart_140 (show inR 0 from ⟨by decide, by decide⟩) k) ?_
          exact Xi.ret ⟨dX6_endPart_141, Or.inl rfl⟩ h
      · have h := h.2 c
        refine Xi.up (pc' := 50) (fun _ _ k => x_aload_n dX6_endPart_49 rfl rfl k) ?_
        refine Xi.up (pc' := 52) (fun _ _ k => x_iload dX6_endPart_50 rfl k) ?_
        obtain ⟨x42, M41, hc44, hK43, h⟩ := h
        refine Xi.up (pc' := 55) (st' := [zi x42]) (fun _ _ k => x_callVK (ci := 8) (as := [zi (x6 + 1)]) (st := []) hK7 k8_roundsAt lm6_218 dX6_endPart_52 rfl (by decide) (zs8 rfl) h1.1 ⟨_, _, rfl⟩ hc44 k) ?_
        refine Xi.br (tgt := 99) (pc' := 58) (x42 ≤ 0) (fun _ _ kt kf => x_if_le dX6_endPart_55 rfl kt kf) (fun c => ?_) (fun c => ?_)
        · have h := h.1 c
          refine Xi.up (pc' := 100) (fun _ _ k => x_iload_n dX6_endPart_99 rfl rfl k) ?_
          refine Xi.up (pc' := 102) (fun _ _ k => x_bipush dX6_endPart_100 (show inR 6 from ⟨by decide, by decide⟩) (by decide) k) ?_
          refine Xi.br (tgt := 116) (pc' := 105) (x2 ≠ 6) (fun _ _ kt kf => x_icmp_ne dX6_endPart_102 rfl kt kf) (fun c => ?_) (fun c => ?_)
          · have h := h.1 c
            refine Xi.up (pc' := 117) (fun _ _ k => x_aload_n dX6_endPart_116 rfl rfl k) ?_
            refine Xi.up (pc' := 118) (fun _ _ k => x_aload_n dX6_endPart_117 rfl rfl k) ?_
            refine Xi.up (pc' := 121) (fun _ _ k => x_getRK hK43 lf6_12 rfl dX6_endPart_118 h0.1 h0.2.1 k) ?_
            refine Xi.up (pc' := 122) (fun _ _ k => x_iload_n dX6_endPart_121 rfl rfl k) ?_
            obtain ⟨x46, M45, hc48, hK47, h⟩ := h
            refine Xi.up (pc' := 125) (st' := [zi x46, zr a1]) (fun _ _ k => x_callVK (ci := 4) (as := [zi (mI M a1 4)]) (st := [zr a1]) hK43 k4_around lm6_231 dX6_endPart_122 rfl (by decide) (zs8 rfl) h0.2.2.2.2.2.2.2.2.2.2.2.1.1 ⟨_, _, rfl⟩ hc48 k) ?_
            refine Xi.up (pc' := 128) (fun _ _ k => x_putIK hK47 lf6_212 rfl rfl (Or.inl rfl) dX6_endPart_125 h1.1 k) ?_
            have hK49 := KW.sI hK47 a1 4 x46
            refine Xi.up (pc' := 129) (fun _ _ k => x_aload_n dX6_endPart_128 rfl rfl k) ?_
            refine Xi.up (pc' := 130) (fun _ _ k => x_aload_n dX6_endPart_129 rfl rfl k) ?_
            refine Xi.up (pc' := 133) (fun _ _ k => x_getRK hK49 lf6_12 rfl dX6_endPart_130 h0.1 h0.2.1 k) ?_
            refine Xi.up (pc' := 134) (fun _ _ k => x_iload_n dX6_endPart_133 rfl rfl k) ?_
            obtain ⟨x51, M50, hc53, hK52, h⟩ := h
            refine Xi.up (pc' := 137) (st' := [zi x51, zr a1]) (fun _ _ k => x_callVK (ci := 4) (as := [zi (mI M a1 4)]) (st := [zr a1]) hK49 k4_behind lm6_161 dX6_endPart_134 rfl (by decide) (zs8 rfl) h0.2.2.2.2.2.2.2.2.2.2.2.1.1 ⟨_, _, rfl⟩ hc53 k) ?_
            refine Xi.up (pc' := 140) (fun _ _ k => x_putIK hK52 lf6_120 rfl rfl (Or.inl rfl) dX6_endPart_137 h1.1 k) ?_
            have hK54 := KW.sI hK52 a1 3 x51
            refine Xi.up (pc' := 141) (fun _ _ k => x_iconst dX6_endPart_140 (show inR 0 from ⟨by decide, by decide⟩) k) ?_
            exact Xi.ret ⟨dX6_endPart_141, Or.inl rfl⟩ h
          · have h := h.2 c
            refine Xi.up (pc' := 106) (fun _ _ k => x_aload_n dX6_endPart_105 rfl rfl k) ?_
            refine Xi.up (pc' := 107) (fun _ _ k => x_aload_n dX6_endPart_106 rfl rfl k) ?_
            refine Xi.up (pc' := 108) (fun _ _ k => x_aload_n dX6_endPart_107 rfl rfl k) ?_
            refine Xi.up (pc' := 110) (fun _ _ k => x_iload dX6_endPart_108 rfl k) ?_
            obtain ⟨x56, M55, hc58, hK57, h⟩ := h
            refine Xi.up (pc' := 113) (st' := [zi x56, zr a1, zr o]) (fun _ _ k => x_callVK (ci := 8) (as := [zi (x6 + 1)]) (st := [zr a1, zr o]) hK43 k8_markAt lm6_224 dX6_endPart_110 rfl (by decide) (zs8 rfl) h1.1 ⟨_, _, rfl⟩ hc58 k) ?_
            obtain ⟨M59, hc61, hK60, h⟩ := h
            refine Xi.up (pc' := 116) (st' := []) (fun _ _ k => x_callVK (ci := 6) (as := [zr a1, zi x56]) (st := []) hK57 k6_drop lm6_227 dX6_endPart_113 rfl (by decide) (zs8 rfl) h0.1 ⟨_, _, rfl⟩ hc61 k) ?_
            refine Xi.up (pc' := 117) (fun _ _ k => x_aload_n dX6_endPart_116 rfl rfl k) ?_
            refine Xi.up (pc' := 118) (fun _ _ k => x_aload_n dX6_endPart_117 rfl rfl k) ?_
            refine Xi.up (pc' := 121) (fun _ _ k => x_getRK hK60 lf6_12 rfl dX6_endPart_118 h0.1 h0.2.1 k) ?_
            refine Xi.up (pc' := 122) (fun _ _ k => x_iload_n dX6_endPart_121 rfl rfl k) ?_
            obtain ⟨x63, M62, hc65, hK64, h⟩ := h
            refine Xi.up (pc' := 125) (st' := [zi x63, zr a1]) (fun _ _ k => x_callVK (ci := 4) (as := [zi (mI M a1 4)]) (st := [zr a1]) hK60 k4_around lm6_231 dX6_endPart_122 rfl (by decide) (zs8 rfl) h0.2.2.2.2.2.2.2.2.2.2.2.1.1 ⟨_, _, rfl⟩ hc65 k) ?_
            refine Xi.up (pc' := 128) (fun _ _ k => x_putIK hK64 lf6_212 rfl rfl (Or.inl rfl) dX6_endPart_125 h1.1 k) ?_
            have hK66 := KW.sI hK64 a1 4 x63
            refine Xi.up (pc' := 129) (fun _ _ k => x_aload_n dX6_endPart_128 rfl rfl k) ?_
            refine Xi.up (pc' := 130) (fun _ _ k => x_aload_n dX6_endPart_129 rfl rfl k) ?_
            refine Xi.up (pc' := 133) (fun _ _ k => x_getRK hK66 lf6_12 rfl dX6_endPart_130 h0.1 h0.2.1 k) ?_
            refine Xi.up (pc' := 134) (fun _ _ k => x_iload_n dX6_endPart_133 rfl rfl k) ?_
            obtain ⟨x68, M67, hc70, hK69, h⟩ := h
            refine Xi.up (pc' := 137) (st' := [zi x68, zr a1]) (fun _ _ k => x_callVK (ci := 4) (as := [zi (mI M a1 4)]) (st := [zr a1]) hK66 k4_behind lm6_161 dX6_endPart_134 rfl (by decide) (zs8 rfl) h0.2.2.2.2.2.2.2.2.2.2.2.1.1 ⟨_, _, rfl⟩ hc70 k) ?_
            refine Xi.up (pc' := 140) (fun _ _ k => x_putIK hK69 lf6_120 rfl rfl (Or.inl rfl) dX6_endPart_137 h1.1 k) ?_
            have hK71 := KW.sI hK69 a1 3 x68
            refine Xi.up (pc' := 141) (fun _ _ k => x_iconst dX6_endPart_140 (show inR 0 from ⟨by decide, by decide⟩) k) ?_
            exact Xi.ret ⟨dX6_endPart_141, Or.inl rfl⟩ h
        · have h := h.2 c
          refine Xi.up (pc' := 59) (fun _ _ k => x_aload_n dX6_endPart_58 rfl rfl k) ?_
          obtain ⟨x73, M72, hc75, hK74, h⟩ := h
          refine Xi.up (pc' := 62) (st' := [zi x73]) (fun _ _ k => x_callVK (ci := 6) (as := []) (st := []) hK43 k6_spend lm6_126 dX6_endPart_59 rfl (by decide) (zs8 rfl) h0.1 ⟨_, _, rfl⟩ hc75 k) ?_
          refine Xi.br (tgt := 67) (pc' := 65) (x73 ≠ 0) (fun _ _ kt kf => x_if_ne dX6_endPart_62 rfl kt kf) (fun c => ?_) (fun c => ?_)
          · have h := h.1 c
            refine Xi.up (pc' := 68) (fun _ _ k => x_aload_n dX6_endPart_67 rfl rfl k) ?_
            refine Xi.up (pc' := 70) (fun _ _ k => x_iload dX6_endPart_68 rfl k) ?_
            refine Xi.up (pc' := 71) (fun _ _ k => x_aload_n dX6_endPart_70 rfl rfl k) ?_
            refine Xi.up (pc' := 73) (fun _ _ k => x_iload dX6_endPart_71 rfl k) ?_
            obtain ⟨x77, M76, hc79, hK78, h⟩ := h
            refine Xi.up (pc' := 76) (st' := [zi x77, zi (x6 + 1), zr a1]) (fun _ _ k => x_callVK (ci := 8) (as := [zi (x6 + 1)]) (st := [zi (x6 + 1), zr a1]) hK74 k8_roundsAt lm6_218 dX6_endPart_73 rfl (by decide) (zs8 rfl) h1.1 ⟨_, _, rfl⟩ hc79 k) ?_
            refine Xi.up (pc' := 77) (fun _ _ k => x_iconst dX6_endPart_76 (show inR 1 from ⟨by decide, by decide⟩) k) ?_
            obtain ⟨g80, h⟩ := h
            refine Xi.up (pc' := 78) (fun _ _ k => x_isub dX6_endPart_77 g80 k) ?_
            obtain ⟨M81, hc83, hK82, h⟩ := h
            refine Xi.up (pc' := 81) (st' := []) (fun _ _ k => x_callVK (ci := 8) (as := [zi (x6 + 1), zi (x77 - 1)]) (st := []) hK78 k8_setRounds lm6_221 dX6_endPart_78 rfl (by decide) (zs8 rfl) h1.1 ⟨_, _, rfl⟩ hc83 k) ?_
            refine Xi.up (pc' := 82) (fun _ _ k => x_aload_n dX6_endPart_81 rfl rfl k) ?_
            refine Xi.up (pc' := 83) (fun _ _ k => x_iload_n dX6_endPart_82 rfl rfl k) ?_
            refine Xi.up (pc' := 84) (fun _ _ k => x_aload_n dX6_endPart_83 rfl rfl k) ?_
            refine Xi.up (pc' := 87) (fun _ _ k => x_getRK hK82 lf6_12 rfl dX6_endPart_84 h0.1 h0.2.1 k) ?_
            refine Xi.up (pc' := 88) (fun _ _ k => x_iload_n dX6_endPart_87 rfl rfl k) ?_
            refine Xi.up (pc' := 89) (fun _ _ k => x_iconst dX6_endPart_88 (show inR 0 from ⟨by decide, by decide⟩) k) ?_
            obtain ⟨x85, M84, hc87, hK86, h⟩ := h
            refine Xi.up (pc' := 92) (st' := [zi x85, zi (mI M a1 4), zr a1]) (fun _ _ k => x_callVK (ci := 4) (as := [zi (mI M a1 4), zi 0]) (st := [zi (mI M a1 4), zr a1]) hK82 k4_partFirst lm6_182 dX6_endPart_89 rfl (by decide) (zs8 rfl) h0.2.2.2.2.2.2.2.2.2.2.2.1.1 ⟨_, _, rfl⟩ hc87 k) ?_
            refine Xi.up (pc' := 94) (fun _ _ k => x_iload dX6_endPart_92 rfl k) ?_
            obtain ⟨M88, hc90, hK89, h⟩ := h
            refine Xi.up (pc' := 97) (st' := []) (fun _ _ k => x_callVK (ci := 8) (as := [zi (mI M a1 4), zi x85, zi (x6 + 1)]) (st := []) hK86 k8_enter lm6_189 dX6_endPart_94 rfl (by decide) (zs8 rfl) h1.1 ⟨_, _, rfl⟩ hc90 k) ?_
            refine Xi.up (pc' := 98) (fun _ _ k => x_iconst dX6_endPart_97 (show inR 0 from ⟨by decide, by decide⟩) k) ?_
            exact Xi.ret ⟨dX6_endPart_98, Or.inl rfl⟩ h
          · have h := h.2 c
            refine Xi.up (pc' := 66) (fun _ _ k => x_iconst dX6_endPart_65 (show inR 2 from ⟨by decide, by decide⟩) k) ?_
            exact Xi.ret ⟨dX6_endPart_66, Or.inl rfl⟩ h
    · have h := h.2 c
      refine Xi.up (pc' := 38) (fun _ _ k => x_aload_n dX6_endPart_37 rfl rfl k) ?_
      refine Xi.up (pc' := 39) (fun _ _ k => x_aload_n dX6_endPart_38 rfl rfl k) ?_
      obtain ⟨x92, M91, hc94, hK93, h⟩ := h
      refine Xi.up (pc' := 42) (st' := [zi x92]) (fun _ _ k => x_callVK (ci := 6) (as := [zr a1]) (st := []) hK7 k6_through lm6_215 dX6_endPart_39 rfl (by decide) (zs8 rfl) h0.1 ⟨_, _, rfl⟩ hc94 k) ?_
      exact Xi.ret ⟨dX6_endPart_42, Or.inl rfl⟩ h
set_option maxHeartbeats 4000000 in
set_option maxRecDepth 20000 in
theorem B6_through {d : Nat} {K M : ZMem} {Q : Int → ZMem → Prop} (o : Nat) (a1 : Nat) (hK : KW K M) (h0 : SearchAt K o) (h1 : WayAt K a1) (h : (((mI (sI M o 12 0) o 11) ≤ 0 → (((mI (sI M o 12 0) o 8) ≠ 5 → (Ci d q4_priceOf [zr (o + 1), zr (a1 + 1)] (sI M o 12 0) (fun x3 M2 => KW K M2 ∧ Ci d q6_tell [zr o, zi 2] M2 (fun x7 M6 => KW K M6 ∧ Ci d q0_add [zr (o + 18), zr a1, zi x3, zi x7] M6 (fun x11 M10 => KW K M10 ∧ ((x11 = 0 → (Ci d q6_finish [zr o, zi 5] M10 (fun x15 M14 => KW K M14 ∧ Q x15 M14))) ∧ (¬ (x11 = 0) → (Q 1 M10)))))))) ∧ (¬ ((mI (sI M o 12 0) o 8) ≠ 5) → (((mI (sI M o 12 0) a1 5) = (mI (sI M o 12 0) o 9) → (Ci d q4_priceOf [zr (o + 1), zr (a1 + 1)] (sI M o 12 0) (fun x19 M18 => KW K M18 ∧ Ci d q6_tell [zr o, zi 2] M18 (fun x23 M22 => KW K M22 ∧ Ci d q0_add [zr (o + 18), zr a1, zi x19, zi x23] M22 (fun x27 M26 => KW K M26 ∧ ((x27 = 0 → (Ci d q6_finish [zr o, zi 5] M26 (fun x31 M30 => KW K M30 ∧ Q x31 M30))) ∧ (¬ (x27 = 0) → (Q 1 M26)))))))) ∧ (¬ ((mI (sI M o 12 0) a1 5) = (mI (sI M o 12 0) o 9)) → (Q 0 (sI M o 12 0))))))) ∧ (¬ ((mI (sI M o 12 0) o 11) ≤ 0) → (Ci d q6_baseOfNot [zr o] (sI M o 12 0) (fun x35 M34 => KW K M34 ∧ (inR ((mI (sI M34 (o + 208) 1 x35) o 11) - 1)) ∧ Q 0 (sI (sI M34 (o + 208) 1 x35) o 11 ((mI (sI M34 (o + 208) 1 x35) o 11) - 1))))))) : Ci (d + 1) q6_through [zr o, zr a1] M Q := by
  refine Ci.of rfl rfl (Nat.le_of_ble_eq_true rfl) (fun w hw x e => by subst e; simp at hw) (L := [some (zr o), some (zr a1), none]) rfl ?_
  refine Xi.up (pc' := 1) (fun _ _ k => x_aload_n dX6_through_0 rfl rfl k) ?_
  refine Xi.up (pc' := 2) (fun _ _ k => x_iconst dX6_through_1 (show inR 0 from ⟨by decide, by decide⟩) k) ?_
  refine Xi.up (pc' := 5) (fun _ _ k => x_putIK hK lf6_77 rfl rfl (Or.inr (Or.inl rfl)) dX6_through_2 h0.1 k) ?_
  have hK1 := KW.sI hK o 12 0
  refine Xi.up (pc' := 6) (fun _ _ k => x_aload_n dX6_through_5 rfl rfl k) ?_
  refine Xi.up (pc' := 9) (fun _ _ k => x_getIK hK1 lf6_74 rfl dX6_through_6 h0.1 k) ?_
  refine Xi.br (tgt := 35) (pc' := 12) ((mI (sI M o 12 0) o 11) ≤ 0) (fun _ _ kt kf => x_if_le dX6_through_9 rfl kt kf) (fun c => ?_) (fun c => ?_)
  · have h := h.1 c
    refine Xi.up (pc' := 36) (fun _ _ k => x_aload_n dX6_through_35 rfl rfl k) ?_
    refine Xi.up (pc' := 39) (fun _ _ k => x_getIK hK1 lf6_53 rfl dX6_through_36 h0.1 k) ?_
    refine Xi.up (pc' := 40) (fun _ _ k => x_iconst dX6_through_39 (show inR 5 from ⟨by decide, by decide⟩) k) ?_
    refine Xi.br (tgt := 56) (pc' := 43) ((mI (sI M o 12 0) o 8) ≠ 5) (fun _ _ kt kf => x_icmp_ne dX6_through_40 rfl kt kf) (fun c => ?_) (fun c => ?_)
    · have h := h.1 c
      refine Xi.up (pc' := 57) (fun _ _ k => x_aload_n dX6_through_56 rfl rfl k) ?_
      refine Xi.up (pc' := 60) (fun _ _ k => x_getRK hK1 lf6_21 rfl dX6_through_57 h0.1 h0.2.2.1 k) ?_
      refine Xi.up (pc' := 61) (fun _ _ k => x_aload_n dX6_through_60 rfl rfl k) ?_
      refine Xi.up (pc' := 62) (fun _ _ k => x_aload_n dX6_through_61 rfl rfl k) ?_
      refine Xi.up (pc' := 65) (fun _ _ k => x_getRK hK1 lf6_12 rfl dX6_through_62 h0.1 h0.2.1 k) ?_
      refine Xi.up (pc' := 66) (fun _ _ k => x_aload_n dX6_through_65 rfl rfl k) ?_
      refine Xi.up (pc' := 69) (fun _ _ k => x_getRK hK1 lf6_234 rfl dX6_through_66 h1.1 h1.2.1 k) ?_
      obtain ⟨x3, M2, hc5, hK4, h⟩ := h
      refine Xi.up (pc' := 72) (st' := [zi x3, zr a1, zr (o + 18)]) (fun _ _ k => x_callVK (ci := 4) (as := [zr (a1 + 1)]) (st := [zr a1, zr (o + 18)]) hK1 k4_priceOf lm6_237 dX6_through_69 rfl (by decide) (zs8 rfl) h0.2.2.2.2.2.2.2.2.2.2.2.1.1 ⟨_, _, rfl⟩ hc5 k) ?_
      refine Xi.up (pc' := 73) (fun _ _ k => x_aload_n dX6_through_72 rfl rfl k) ?_
      refine Xi.up (pc' := 74) (fun _ _ k => x_iconst dX6_through_73 (show inR 2 from ⟨by decide, by decide⟩) k) ?_
      obtain ⟨x7, M6, hc9, hK8, h⟩ := h
      refine Xi.up (pc' := 77) (st' := [zi x7, zi x3, zr a1, zr (o + 18)]) (fun _ _ k => x_callVK (ci := 6) (as := [zi 2]) (st := [zi x3, zr a1, zr (o + 18)]) hK4 k6_tell lm6_241 dX6_through_74 rfl (by decide) (zs8 rfl) h0.1 ⟨_, _, rfl⟩ hc9 k) ?_
      obtain ⟨x11, M10, hc13, hK12, h⟩ := h
      refine Xi.up (pc' := 80) (st' := [zi x11]) (fun _ _ k => x_callVK (ci := 0) (as := [zr a1, zi x3, zi x7]) (st := []) hK8 k0_add lm6_244 dX6_through_77 rfl (by decide) (zs8 rfl) h0.2.2.2.2.2.2.2.2.2.2.2.2.1.1 ⟨_, _, rfl⟩ hc13 k) ?_
      refine Xi.up (pc' := 81) (L' := [some (zr o), some (zr a1), some (zi x11)]) (fun _ _ k => x_istore_n dX6_through_80 rfl (by decide) rfl k) ?_
      refine Xi.up (pc' := 82) (fun _ _ k => x_iload_n dX6_through_81 rfl rfl k) ?_
      refine Xi.br (tgt := 89) (pc' := 85) (x11 = 0) (fun _ _ kt kf => x_if_eq dX6_through_82 rfl kt kf) (fun c => ?_) (fun c => ?_)
      · have h := h.1 c
        refine Xi.up (pc' := 90) (fun _ _ k => x_aload_n dX6_through_89 rfl rfl k) ?_
        refine Xi.up (pc' := 91) (fun _ _ k => x_iconst dX6_through_90 (show inR 5 from ⟨by decide, by decide⟩) k) ?_
        obtain ⟨x15, M14, hc17, hK16, h⟩ := h
        refine Xi.up (pc' := 94) (st' := [zi x15]) (fun _ _ k => x_callVK (ci := 6) (as := [zi 5]) (st := []) hK12 k6_finish lm6_164 dX6_through_91 rfl (by decide) (zs8 rfl) h0.1 ⟨_, _, rfl⟩ hc17 k) ?_
        exact Xi.ret ⟨dX6_through_94, Or.inl rfl⟩ h
      · have h := h.2 c
        refine Xi.up (pc' := 86) (fun _ _ k => x_iconst dX6_through_85 (show inR 1 from ⟨by decide, by decide⟩) k) ?_
        refine Xi.up (pc' := 94) (fun _ _ k => x_goto dX6_through_86 rfl k) ?_
        exact Xi.ret ⟨dX6_through_94, Or.inl rfl⟩ h
    · have h := h.2 c
      refine Xi.up (pc' := 44) (fun _ _ k => x_aload_n dX6_through_43 rfl rfl k) ?_
      refine Xi.up (pc' := 47) (fun _ _ k => x_getIK hK1 lf6_173 rfl dX6_through_44 h1.1 k) ?_
      refine Xi.up (pc' := 48) (fun _ _ k => x_aload_n dX6_through_47 rfl rfl k) ?_
      refine Xi.up (pc' := 51) (fun _ _ k => x_getIK hK1 lf6_64 rfl dX6_through_48 h0.1 k) ?_
      refine Xi.br (tgt := 56) (pc' := 54) ((mI (sI M o 12 0) a1 5) = (mI (sI M o 12 0) o 9)) (fun _ _ kt kf => x_icmp_eq dX6_through_51 rfl kt kf) (fun c => ?_) (fun c => ?_)
      · have h := h.1 c
        refine Xi.up (pc' := 57) (fun _ _ k => x_aload_n dX6_through_56 rfl rfl k) ?_
        refine Xi.up (pc' := 60) (fun _ _ k => x_getRK hK1 lf6_21 rfl dX6_through_57 h0.1 h0.2.2.1 k) ?_
        refine Xi.up (pc' := 61) (fun _ _ k => x_aload_n dX6_through_60 rfl rfl k) ?_
        refine Xi.up (pc' := 62) (fun _ _ k => x_aload_n dX6_through_61 rfl rfl k) ?_
        refine Xi.up (pc' := 65) (fun _ _ k => x_getRK hK1 lf6_12 rfl dX6_through_62 h0.1 h0.2.1 k) ?_
        refine Xi.up (pc' := 66) (fun _ _ k => x_aload_n dX6_through_65 rfl rfl k) ?_
        refine Xi.up (pc' := 69) (fun _ _ k => x_getRK hK1 lf6_234 rfl dX6_through_66 h1.1 h1.2.1 k) ?_
        obtain ⟨x19, M18, hc21, hK20, h⟩ := h
        refine Xi.up (pc' := 72) (st' := [zi x19, zr a1, zr (o + 18)]) (fun _ _ k => x_callVK (ci := 4) (as := [zr (a1 + 1)]) (st := [zr a1, zr (o + 18)]) hK1 k4_priceOf lm6_237 dX6_through_69 rfl (by decide) (zs8 rfl) h0.2.2.2.2.2.2.2.2.2.2.2.1.1 ⟨_, _, rfl⟩ hc21 k) ?_
        refine Xi.up (pc' := 73) (fun _ _ k => x_aload_n dX6_through_72 rfl rfl k) ?_
        refine Xi.up (pc' := 74) (fun _ _ k => x_iconst dX6_through_73 (show inR 2 from ⟨by decide, by decide⟩) k) ?_
        obtain ⟨x23, M22, hc25, hK24, h⟩ := h
        refine Xi.up (pc' := 77) (st' := [zi x23, zi x19, zr a1, zr (o + 18)]) (fun _ _ k => x_callVK (ci := 6) (as := [zi 2]) (st := [zi x19, zr a1, zr (o + 18)]) hK20 k6_tell lm6_241 dX6_through_74 rfl (by decide) (zs8 rfl) h0.1 ⟨_, _, rfl⟩ hc25 k) ?_
        obtain ⟨x27, M26, hc29, hK28, h⟩ := h
        refine Xi.up (pc' := 80) (st' := [zi x27]) (fun _ _ k => x_callVK (ci := 0) (as := [zr a1, zi x19, zi x23]) (st := []) hK24 k0_add lm6_244 dX6_through_77 rfl (by decide) (zs8 rfl) h0.2.2.2.2.2.2.2.2.2.2.2.2.1.1 ⟨_, _, rfl⟩ hc29 k) ?_
        refine Xi.up (pc' := 81) (L' := [some (zr o), some (zr a1), some (zi x27)]) (fun _ _ k => x_istore_n dX6_through_80 rfl (by decide) rfl k) ?_
        refine Xi.up (pc' := 82) (fun _ _ k => x_iload_n dX6_through_81 rfl rfl k) ?_
        refine Xi.br (tgt := 89) (pc' := 85) (x27 = 0) (fun _ _ kt kf => x_if_eq dX6_through_82 rfl kt kf) (fun c => ?_) (fun c => ?_)
        · have h := h.1 c
          refine Xi.up (pc' := 90) (fun _ _ k => x_aload_n dX6_through_89 rfl rfl k) ?_
          refine Xi.up (pc' := 91) (fun _ _ k => x_iconst dX6_through_90 (show inR 5 from ⟨by decide, by decide⟩) k) ?_
          obtain ⟨x31, M30, hc33, hK32, h⟩ := h
          refine Xi.up (pc' := 94) (st' := [zi x31]) (fun _ _ k => x_callVK (ci := 6) (as := [zi 5]) (st := []) hK28 k6_finish lm6_164 dX6_through_91 rfl (by decide) (zs8 rfl) h0.1 ⟨_, _, rfl⟩ hc33 k) ?_
          exact Xi.ret ⟨dX6_through_94, Or.inl rfl⟩ h
        · have h := h.2 c
          refine Xi.up (pc' := 86) (fun _ _ k => x_iconst dX6_through_85 (show inR 1 from ⟨by decide, by decide⟩) k) ?_
          refine Xi.up (pc' := 94) (fun _ _ k => x_goto dX6_through_86 rfl k) ?_
          exact Xi.ret ⟨dX6_through_94, Or.inl rfl⟩ h
      · have h := h.2 c
        refine Xi.up (pc' := 55) (fun _ _ k => x_iconst dX6_through_54 (show inR 0 from ⟨by decide, by decide⟩) k) ?_
        exact Xi.ret ⟨dX6_through_55, Or.inl rfl⟩ h
  · have h := h.2 c
    refine Xi.up (pc' := 13) (fun _ _ k => x_aload_n dX6_through_12 rfl rfl k) ?_
    refine Xi.up (pc' := 16) (fun _ _ k => x_getRK hK1 lf6_32 rfl dX6_through_13 h0.1 h0.2.2.2.2.1 k) ?_
    refine Xi.up (pc' := 17) (fun _ _ k => x_aload_n dX6_through_16 rfl rfl k) ?_
    obtain ⟨x35, M34, hc37, hK36, h⟩ := h
    refine Xi.up (pc' := 20) (st' := [zi x35, zr (o + 208)]) (fun _ _ k => x_callVK (ci := 6) (as := []) (st := [zr (o + 208)]) hK1 k6_baseOfNot lm6_158 dX6_through_17 rfl (by decide) (zs8 rfl) h0.1 ⟨_, _, rfl⟩ hc37 k) ?_
    refine Xi.up (pc' := 23) (fun _ _ k => x_putIK hK36 lf6_63 rfl rfl (Or.inl rfl) dX6_through_20 h0.2.2.2.2.2.2.2.2.2.2.2.2.2.2.1.1 k) ?_
    have hK38 := KW.sI hK36 (o + 208) 1 x35
    refine Xi.up (pc' := 24) (fun _ _ k => x_aload_n dX6_through_23 rfl rfl k) ?_
    refine Xi.up (pc' := 25) (fun _ _ k => x_dupR dX6_through_24 k) ?_
    refine Xi.up (pc' := 28) (fun _ _ k => x_getIK hK38 lf6_74 rfl dX6_through_25 h0.1 k) ?_
    refine Xi.up (pc' := 29) (fun _ _ k => x_iconst dX6_through_28 (show inR 1 from ⟨by decide, by decide⟩) k) ?_
    obtain ⟨g39, h⟩ := h
    refine Xi.up (pc' := 30) (fun _ _ k => x_isub dX6_through_29 g39 k) ?_
    refine Xi.up (pc' := 33) (fun _ _ k => x_putIK hK38 lf6_74 rfl rfl (Or.inl rfl) dX6_through_30 h0.1 k) ?_
    have hK40 := KW.sI hK38 o 11 ((mI (sI M34 (o + 208) 1 x35) o 11) - 1)
    refine Xi.up (pc' := 34) (fun _ _ k => x_iconst dX6_through_33 (show inR 0 from ⟨by decide, by decide⟩) k) ?_
    exact Xi.ret ⟨dX6_through_34, Or.inl rfl⟩ h
set_option maxHeartbeats 4000000 in
set_option maxRecDepth 20000 in
theorem B6_beginStatement {d : Nat} {K M : ZMem} {Q : Int → ZMem → Prop} (o : Nat) (a1 : Nat) (hK : KW K M) (h0 : SearchAt K o) (h1 : WayAt K a1) (h : Ci d q4_kindOf [zr (o + 1), zi (mI M a1 3)] M (fun x2 M1 => KW K M1 ∧ ((x2 = 1 → (Ci d q6_assign [zr o, zr a1, zi (mI M a1 3)] M1 (fun x6 M5 => KW K M5 ∧ Q x6 M5))) ∧ (x2 = 2 → (Ci d q6_test [zr o, zr a1, zi (mI M a1 3)] M1 (fun x10 M9 => KW K M9 ∧ Q x10 M9))) ∧ (x2 = 3 ∨ x2 = 4 ∨ x2 = 5 → (Ci d q6_choose [zr o, zr a1, zi (mI M a1 3)] M1 (fun x14 M13 => KW K M13 ∧ Q x14 M13))) ∧ (x2 = 7 → (Ci d q6_beginNot [zr o, zr a1, zi (mI M a1 3)] M1 (fun x18 M17 => KW K M17 ∧ Q x18 M17))) ∧ (x2 = 8 → (Ci d q4_levelOf [zr (o + 1), zi (mI M a1 3)] M1 (fun x22 M21 => KW K M21 ∧ Ci d q8_markAt [zr a1, zi x22] M21 (fun x26 M25 => KW K M25 ∧ Cv d q6_drop [zr o, zr a1, zi x26] M25 (fun M29 => KW K M29 ∧ Ci d q4_behind [zr (o + 1), zi (mI M a1 3)] M29 (fun x33 M32 => KW K M32 ∧ Q 0 (sI M32 a1 3 x33))))))) ∧ (x2 < 1 ∨ 8 < x2 ∨ x2 = 6 → (Ci d q4_levelOf [zr (o + 1), zi (mI M a1 3)] M1 (fun x38 M37 => KW K M37 ∧ (inR (x38 + 1)) ∧ Ci d q4_detailOf [zr (o + 1), zi (mI M a1 3)] M37 (fun x43 M42 => KW K M42 ∧ (inR (x43 - 1)) ∧ Cv d q8_setRounds [zr a1, zi (x38 + 1), zi (x43 - 1)] M42 (fun M47 => KW K M47 ∧ Ci d q4_partFirst [zr (o + 1), zi (mI M a1 3), zi 0] M47 (fun x51 M50 => KW K M50 ∧ Ci d q4_levelOf [zr (o + 1), zi (mI M a1 3)] M50 (fun x55 M54 => KW K M54 ∧ (inR (x55 + 1)) ∧ Cv d q8_enter [zr a1, zi (mI M a1 3), zi x51, zi (x55 + 1)] M54 (fun M59 => KW K M59 ∧ Q 0 M59))))))))))) : Ci (d + 1) q6_beginStatement [zr o, zr a1] M Q := by
  refine Ci.of rfl rfl (Nat.le_of_ble_eq_true rfl) (fun w hw x e => by subst e; simp at hw) (L := [some (zr o), some (zr a1), none]) rfl ?_
  refine Xi.up (pc' := 1) (fun _ _ k => x_aload_n dX6_beginStatement_0 rfl rfl k) ?_
  refine Xi.up (pc' := 4) (fun _ _ k => x_getIK hK lf6_120 rfl dX6_beginStatement_1 h1.1 k) ?_
  refine Xi.up (pc' := 5) (L' := [some (zr o), some (zr a1), some (zi (mI M a1 3))]) (fun _ _ k => x_istore_n dX6_beginStatement_4 rfl (by decide) rfl k) ?_
  refine Xi.up (pc' := 6) (fun _ _ k => x_aload_n dX6_beginStatement_5 rfl rfl k) ?_
  refine Xi.up (pc' := 9) (fun _ _ k => x_getRK hK lf6_12 rfl dX6_beginStatement_6 h0.1 h0.2.1 k) ?_
  refine Xi.up (pc' := 10) (fun _ _ k => x_iload_n dX6_beginStatement_9 rfl rfl k) ?_
  obtain ⟨x2, M1, hc4, hK3, h⟩ := h
  refine Xi.up (pc' := 13) (st' := [zi x2]) (fun _ _ k => x_callVK (ci := 4) (as := [zi (mI M a1 3)]) (st := []) hK k4_kindOf lm6_179 dX6_beginStatement_10 rfl (by decide) (zs8 rfl) h0.2.2.2.2.2.2.2.2.2.2.2.1.1 ⟨_, _, rfl⟩ hc4 k) ?_
  by_cases c : x2 < 1 ∨ 8 < x2
  · refine Xi.up (pc' := 119) (fun _ _ k => x_tsOut dX6_beginStatement_13 c rfl k) ?_
    have h := h.2.2.2.2.2 (by omega)
    refine Xi.up (pc' := 120) (fun _ _ k => x_aload_n dX6_beginStatement_119 rfl rfl k) ?_
    refine Xi.up (pc' := 121) (fun _ _ k => x_aload_n dX6_beginStatement_120 rfl rfl k) ?_
    refine Xi.up (pc' := 124) (fun _ _ k => x_getRK hK3 lf6_12 rfl dX6_beginStatement_121 h0.1 h0.2.1 k) ?_
    refine Xi.up (pc' := 125) (fun _ _ k => x_iload_n dX6_beginStatement_124 rfl rfl k) ?_
    obtain ⟨x38, M37, hc40, hK39, h⟩ := h
    refine Xi.up (pc' := 128) (st' := [zi x38, zr a1]) (fun _ _ k => x_callVK (ci := 4) (as := [zi (mI M a1 3)]) (st := [zr a1]) hK3 k4_levelOf lm6_186 dX6_beginStatement_125 rfl (by decide) (zs8 rfl) h0.2.2.2.2.2.2.2.2.2.2.2.1.1 ⟨_, _, rfl⟩ hc40 k) ?_
    refine Xi.up (pc' := 129) (fun _ _ k => x_iconst dX6_beginStatement_128 (show inR 1 from ⟨by decide, by decide⟩) k) ?_
    obtain ⟨g41, h⟩ := h
    refine Xi.up (pc' := 130) (fun _ _ k => x_iadd dX6_beginStatement_129 g41 k) ?_
    refine Xi.up (pc' := 131) (fun _ _ k => x_aload_n dX6_beginStatement_130 rfl rfl k) ?_
    refine Xi.up (pc' := 134) (fun _ _ k => x_getRK hK39 lf6_12 rfl dX6_beginStatement_131 h0.1 h0.2.1 k) ?_
    refine Xi.up (pc' := 135) (fun _ _ k => x_iload_n dX6_beginStatement_134 rfl rfl k) ?_
    obtain ⟨x43, M42, hc45, hK44, h⟩ := h
    refine Xi.up (pc' := 138) (st' := [zi x43, zi (x38 + 1), zr a1]) (fun _ _ k => x_callVK (ci := 4) (as := [zi (mI M a1 3)]) (st := [zi (x38 + 1), zr a1]) hK39 k4_detailOf lm6_199 dX6_beginStatement_135 rfl (by decide) (zs8 rfl) h0.2.2.2.2.2.2.2.2.2.2.2.1.1 ⟨_, _, rfl⟩ hc45 k) ?_
    refine Xi.up (pc' := 139) (fun _ _ k => x_iconst dX6_beginStatement_138 (show inR 1 from ⟨by decide, by decide⟩) k) ?_
    obtain ⟨g46, h⟩ := h
    refine Xi.up (pc' := 140) (fun _ _ k => x_isub dX6_beginStatement_139 g46 k) ?_
    obtain ⟨M47, hc49, hK48, h⟩ := h
    refine Xi.up (pc' := 143) (st' := []) (fun _ _ k => x_callVK (ci := 8) (as := [zi (x38 + 1), zi (x43 - 1)]) (st := []) hK44 k8_setRounds lm6_221 dX6_beginStatement_140 rfl (by decide) (zs8 rfl) h1.1 ⟨_, _, rfl⟩ hc49 k) ?_
    refine Xi.up (pc' := 144) (fun _ _ k => x_aload_n dX6_beginStatement_143 rfl rfl k) ?_
    refine Xi.up (pc' := 145) (fun _ _ k => x_iload_n dX6_beginStatement_144 rfl rfl k) ?_
    refine Xi.up (pc' := 146) (fun _ _ k => x_aload_n dX6_beginStatement_145 rfl rfl k) ?_
    refine Xi.up (pc' := 149) (fun _ _ k => x_getRK hK48 lf6_12 rfl dX6_beginStatement_146 h0.1 h0.2.1 k) ?_
    refine Xi.up (pc' := 150) (fun _ _ k => x_iload_n dX6_beginStatement_149 rfl rfl k) ?_
    refine Xi.up (pc' := 151) (fun _ _ k => x_iconst dX6_beginStatement_150 (show inR 0 from ⟨by decide, by decide⟩) k) ?_
    obtain ⟨x51, M50, hc53, hK52, h⟩ := h
    refine Xi.up (pc' := 154) (st' := [zi x51, zi (mI M a1 3), zr a1]) (fun _ _ k => x_callVK (ci := 4) (as := [zi (mI M a1 3), zi 0]) (st := [zi (mI M a1 3), zr a1]) hK48 k4_partFirst lm6_182 dX6_beginStatement_151 rfl (by decide) (zs8 rfl) h0.2.2.2.2.2.2.2.2.2.2.2.1.1 ⟨_, _, rfl⟩ hc53 k) ?_
    refine Xi.up (pc' := 155) (fun _ _ k => x_aload_n dX6_beginStatement_154 rfl rfl k) ?_
    refine Xi.up (pc' := 158) (fun _ _ k => x_getRK hK52 lf6_12 rfl dX6_beginStatement_155 h0.1 h0.2.1 k) ?_
    refine Xi.up (pc' := 159) (fun _ _ k => x_iload_n dX6_beginStatement_158 rfl rfl k) ?_
    obtain ⟨x55, M54, hc57, hK56, h⟩ := h
    refine Xi.up (pc' := 162) (st' := [zi x55, zi x51, zi (mI M a1 3), zr a1]) (fun _ _ k => x_callVK (ci := 4) (as := [zi (mI M a1 3)]) (st := [zi x51, zi (mI M a1 3), zr a1]) hK52 k4_levelOf lm6_186 dX6_beginStatement_159 rfl (by decide) (zs8 rfl) h0.2.2.2.2.2.2.2.2.2.2.2.1.1 ⟨_, _, rfl⟩ hc57 k) ?_
    refine Xi.up (pc' := 163) (fun _ _ k => x_iconst dX6_beginStatement_162 (show inR 1 from ⟨by decide, by decide⟩) k) ?_
    obtain ⟨g58, h⟩ := h
    refine Xi.up (pc' := 164) (fun _ _ k => x_iadd dX6_beginStatement_163 g58 k) ?_
    obtain ⟨M59, hc61, hK60, h⟩ := h
    refine Xi.up (pc' := 167) (st' := []) (fun _ _ k => x_callVK (ci := 8) (as := [zi (mI M a1 3), zi x51, zi (x55 + 1)]) (st := []) hK56 k8_enter lm6_189 dX6_beginStatement_164 rfl (by decide) (zs8 rfl) h1.1 ⟨_, _, rfl⟩ hc61 k) ?_
    refine Xi.up (pc' := 168) (fun _ _ k => x_iconst dX6_beginStatement_167 (show inR 0 from ⟨by decide, by decide⟩) k) ?_
    exact Xi.ret ⟨dX6_beginStatement_168, Or.inl rfl⟩ h
  · rcases (show x2 = 1 ∨ x2 = 2 ∨ x2 = 3 ∨ x2 = 4 ∨ x2 = 5 ∨ x2 = 6 ∨ x2 = 7 ∨ x2 = 8 by omega) with c | c | c | c | c | c | c | c
    · refine Xi.up (pc' := 60) (fun _ _ k => x_tsIn (x := x2) (i := 0) dX6_beginStatement_13 (by omega) (by decide) rfl rfl k) ?_
      have h := h.1 (by omega)
      refine Xi.up (pc' := 61) (fun _ _ k => x_aload_n dX6_beginStatement_60 rfl rfl k) ?_
      refine Xi.up (pc' := 62) (fun _ _ k => x_aload_n dX6_beginStatement_61 rfl rfl k) ?_
      refine Xi.up (pc' := 63) (fun _ _ k => x_iload_n dX6_beginStatement_62 rfl rfl k) ?_
      obtain ⟨x6, M5, hc8, hK7, h⟩ := h
      refine Xi.up (pc' := 66) (st' := [zi x6]) (fun _ _ k => x_callVK (ci := 6) (as := [zr a1, zi (mI M a1 3)]) (st := []) hK3 k6_assign lm6_248 dX6_beginStatement_63 rfl (by decide) (zs8 rfl) h0.1 ⟨_, _, rfl⟩ hc8 k) ?_
      exact Xi.ret ⟨dX6_beginStatement_66, Or.inl rfl⟩ h
    · refine Xi.up (pc' := 67) (fun _ _ k => x_tsIn (x := x2) (i := 1) dX6_beginStatement_13 (by omega) (by decide) rfl rfl k) ?_
      have h := h.2.1 (by omega)
      refine Xi.up (pc' := 68) (fun _ _ k => x_aload_n dX6_beginStatement_67 rfl rfl k) ?_
      refine Xi.up (pc' := 69) (fun _ _ k => x_aload_n dX6_beginStatement_68 rfl rfl k) ?_
      refine Xi.up (pc' := 70) (fun _ _ k => x_iload_n dX6_beginStatement_69 rfl rfl k) ?_
      obtain ⟨x10, M9, hc12, hK11, h⟩ := h
      refine Xi.up (pc' := 73) (st' := [zi x10]) (fun _ _ k => x_callVK (ci := 6) (as := [zr a1, zi (mI M a1 3)]) (st := []) hK3 k6_test lm6_252 dX6_beginStatement_70 rfl (by decide) (zs8 rfl) h0.1 ⟨_, _, rfl⟩ hc12 k) ?_
      exact Xi.ret ⟨dX6_beginStatement_73, Or.inl rfl⟩ h
    · refine Xi.up (pc' := 74) (fun _ _ k => x_tsIn (x := x2) (i := 2) dX6_beginStatement_13 (by omega) (by decide) rfl rfl k) ?_
      have h := h.2.2.1 (by omega)
      refine Xi.up (pc' := 75) (fun _ _ k => x_aload_n dX6_beginStatement_74 rfl rfl k) ?_
      refine Xi.up (pc' := 76) (fun _ _ k => x_aload_n dX6_beginStatement_75 rfl rfl k) ?_
      refine Xi.up (pc' := 77) (fun _ _ k => x_iload_n dX6_beginStatement_76 rfl rfl k) ?_
      obtain ⟨x14, M13, hc16, hK15, h⟩ := h
      refine Xi.up (pc' := 80) (st' := [zi x14]) (fun _ _ k => x_callVK (ci := 6) (as := [zr a1, zi (mI M a1 3)]) (st := []) hK3 k6_choose lm6_255 dX6_beginStatement_77 rfl (by decide) (zs8 rfl) h0.1 ⟨_, _, rfl⟩ hc16 k) ?_
      exact Xi.ret ⟨dX6_beginStatement_80, Or.inl rfl⟩ h
    · refine Xi.up (pc' := 74) (fun _ _ k => x_tsIn (x := x2) (i := 3) dX6_beginStatement_13 (by omega) (by decide) rfl rfl k) ?_
      have h := h.2.2.1 (by omega)
      refine Xi.up (pc' := 75) (fun _ _ k => x_aload_n dX6_beginStatement_74 rfl rfl k) ?_
      refine Xi.up (pc' := 76) (fun _ _ k => x_aload_n dX6_beginStatement_75 rfl rfl k) ?_
      refine Xi.up (pc' := 77) (fun _ _ k => x_iload_n dX6_beginStatement_76 rfl rfl k) ?_
      obtain ⟨x14, M13, hc16, hK15, h⟩ := h
      refine Xi.up (pc' := 80) (st' := [zi x14]) (fun _ _ k => x_callVK (ci := 6) (as := [zr a1, zi (mI M a1 3)]) (st := []) hK3 k6_choose lm6_255 dX6_beginStatement_77 rfl (by decide) (zs8 rfl) h0.1 ⟨_, _, rfl⟩ hc16 k) ?_
      exact Xi.ret ⟨dX6_beginStatement_80, Or.inl rfl⟩ h
    · refine Xi.up (pc' := 74) (fun _ _ k => x_tsIn (x := x2) (i := 4) dX6_beginStatement_13 (by omega) (by decide) rfl rfl k) ?_
      have h := h.2.2.1 (by omega)
      refine Xi.up (pc' := 75) (fun _ _ k => x_aload_n dX6_beginStatement_74 rfl rfl k) ?_
      refine Xi.up (pc' := 76) (fun _ _ k => x_aload_n dX6_beginStatement_75 rfl rfl k) ?_
      refine Xi.up (pc' := 77) (fun _ _ k => x_iload_n dX6_beginStatement_76 rfl rfl k) ?_
      obtain ⟨x14, M13, hc16, hK15, h⟩ := h
      refine Xi.up (pc' := 80) (st' := [zi x14]) (fun _ _ k => x_callVK (ci := 6) (as := [zr a1, zi (mI M a1 3)]) (st := []) hK3 k6_choose lm6_255 dX6_beginStatement_77 rfl (by decide) (zs8 rfl) h0.1 ⟨_, _, rfl⟩ hc16 k) ?_
      exact Xi.ret ⟨dX6_beginStatement_80, Or.inl rfl⟩ h
    · refine Xi.up (pc' := 119) (fun _ _ k => x_tsIn (x := x2) (i := 5) dX6_beginStatement_13 (by omega) (by decide) rfl rfl k) ?_
      have h := h.2.2.2.2.2 (by omega)
      refine Xi.up (pc' := 120) (fun _ _ k => x_aload_n dX6_beginStatement_119 rfl rfl k) ?_
      refine Xi.up (pc' := 121) (fun _ _ k => x_aload_n dX6_beginStatement_120 rfl rfl k) ?_
      refine Xi.up (pc' := 124) (fun _ _ k => x_getRK hK3 lf6_12 rfl dX6_beginStatement_121 h0.1 h0.2.1 k) ?_
      refine Xi.up (pc' := 125) (fun _ _ k => x_iload_n dX6_beginStatement_124 rfl rfl k) ?_
      obtain ⟨x38, M37, hc40, hK39, h⟩ := h
      refine Xi.up (pc' := 128) (st' := [zi x38, zr a1]) (fun _ _ k => x_callVK (ci := 4) (as := [zi (mI M a1 3)]) (st := [zr a1]) hK3 k4_levelOf lm6_186 dX6_beginStatement_125 rfl (by decide) (zs8 rfl) h0.2.2.2.2.2.2.2.2.2.2.2.1.1 ⟨_, _, rfl⟩ hc40 k) ?_
      refine Xi.up (pc' := 129) (fun _ _ k => x_iconst dX6_beginStatement_128 (show inR 1 from ⟨by decide, by decide⟩) k) ?_
      obtain ⟨g41, h⟩ := h
      refine Xi.up (pc' := 130) (fun _ _ k => x_iadd dX6_beginStatement_129 g41 k) ?_
      refine Xi.up (pc' := 131) (fun _ _ k => x_aload_n dX6_beginStatement_130 rfl rfl k) ?_
      refine Xi.up (pc' := 134) (fun _ _ k => x_getRK hK39 lf6_12 rfl dX6_beginStatement_131 h0.1 h0.2.1 k) ?_
      refine Xi.up (pc' := 135) (fun _ _ k => x_iload_n dX6_beginStatement_134 rfl rfl k) ?_
      obtain ⟨x43, M42, hc45, hK44, h⟩ := h
      refine Xi.up (pc' := 138) (st' := [zi x43, zi (x38 + 1), zr a1]) (fun _ _ k => x_callVK (ci := 4) (as := [zi (mI M a1 3)]) (st := [zi (x38 + 1), zr a1]) hK39 k4_detailOf lm6_199 dX6_beginStatement_135 rfl (by decide) (zs8 rfl) h0.2.2.2.2.2.2.2.2.2.2.2.1.1 ⟨_, _, rfl⟩ hc45 k) ?_
      refine Xi.up (pc' := 139) (fun _ _ k => x_iconst dX6_beginStatement_138 (show inR 1 from ⟨by decide, by decide⟩) k) ?_
      obtain ⟨g46, h⟩ := h
      refine Xi.up (pc' := 140) (fun _ _ k => x_isub dX6_beginStatement_139 g46 k) ?_
      obtain ⟨M47, hc49, hK48, h⟩ := h
      refine Xi.up (pc' := 143) (st' := []) (fun _ _ k => x_callVK (ci := 8) (as := [zi (x38 + 1), zi (x43 - 1)]) (st := []) hK44 k8_setRounds lm6_221 dX6_beginStatement_140 rfl (by decide) (zs8 rfl) h1.1 ⟨_, _, rfl⟩ hc49 k) ?_
      refine Xi.up (pc' := 144) (fun _ _ k => x_aload_n dX6_beginStatement_143 rfl rfl k) ?_
      refine Xi.up (pc' := 145) (fun _ _ k => x_iload_n dX6_beginStatement_144 rfl rfl k) ?_
      refine Xi.up (pc' := 146) (fun _ _ k => x_aload_n dX6_beginStatement_145 rfl rfl k) ?_
      refine Xi.up (pc' := 149) (fun _ _ k => x_getRK hK48 lf6_12 rfl dX6_beginStatement_146 h0.1 h0.2.1 k) ?_
      refine Xi.up (pc' := 150) (fun _ _ k => x_iload_n dX6_beginStatement_149 rfl rfl k) ?_
      refine Xi.up (pc' := 151) (fun _ _ k => x_iconst dX6_beginStatement_150 (show inR 0 from ⟨by decide, by decide⟩) k) ?_
      obtain ⟨x51, M50, hc53, hK52, h⟩ := h
      refine Xi.up (pc' := 154) (st' := [zi x51, zi (mI M a1 3), zr a1]) (fun _ _ k => x_callVK (ci := 4) (as := [zi (mI M a1 3), zi 0]) (st := [zi (mI M a1 3), zr a1]) hK48 k4_partFirst lm6_182 dX6_beginStatement_151 rfl (by decide) (zs8 rfl) h0.2.2.2.2.2.2.2.2.2.2.2.1.1 ⟨_, _, rfl⟩ hc53 k) ?_
      refine Xi.up (pc' := 155) (fun _ _ k => x_aload_n dX6_beginStatement_154 rfl rfl k) ?_
      refine Xi.up (pc' := 158) (fun _ _ k => x_getRK hK52 lf6_12 rfl dX6_beginStatement_155 h0.1 h0.2.1 k) ?_
      refine Xi.up (pc' := 159) (fun _ _ k => x_iload_n dX6_beginStatement_158 rfl rfl k) ?_
      obtain ⟨x55, M54, hc57, hK56, h⟩ := h
      refine Xi.up (pc' := 162) (st' := [zi x55, zi x51, zi (mI M a1 3), zr a1]) (fun _ _ k => x_callVK (ci := 4) (as := [zi (mI M a1 3)]) (st := [zi x51, zi (mI M a1 3), zr a1]) hK52 k4_levelOf lm6_186 dX6_beginStatement_159 rfl (by decide) (zs8 rfl) h0.2.2.2.2.2.2.2.2.2.2.2.1.1 ⟨_, _, rfl⟩ hc57 k) ?_
      refine Xi.up (pc' := 163) (fun _ _ k => x_iconst dX6_beginStatement_162 (show inR 1 from ⟨by decide, by decide⟩) k) ?_
      obtain ⟨g58, h⟩ := h
      refine Xi.up (pc' := 164) (fun _ _ k => x_iadd dX6_beginStatement_163 g58 k) ?_
      obtain ⟨M59, hc61, hK60, h⟩ := h
      refine Xi.up (pc' := 167) (st' := []) (fun _ _ k => x_callVK (ci := 8) (as := [zi (mI M a1 3), zi x51, zi (x55 + 1)]) (st := []) hK56 k8_enter lm6_189 dX6_beginStatement_164 rfl (by decide) (zs8 rfl) h1.1 ⟨_, _, rfl⟩ hc61 k) ?_
      refine Xi.up (pc' := 168) (fun _ _ k => x_iconst dX6_beginStatement_167 (show inR 0 from ⟨by decide, by decide⟩) k) ?_
      exact Xi.ret ⟨dX6_beginStatement_168, Or.inl rfl⟩ h
    · refine Xi.up (pc' := 81) (fun _ _ k => x_tsIn (x := x2) (i := 6) dX6_beginStatement_13 (by omega) (by decide) rfl rfl k) ?_
      have h := h.2.2.2.1 (by omega)
      refine Xi.up (pc' := 82) (fun _ _ k => x_aload_n dX6_beginStatement_81 rfl rfl k) ?_
      refine Xi.up (pc' := 83) (fun _ _ k => x_aload_n dX6_beginStatement_82 rfl rfl k) ?_
      refine Xi.up (pc' := 84) (fun _ _ k => x_iload_n dX6_beginStatement_83 rfl rfl k) ?_
      obtain ⟨x18, M17, hc20, hK19, h⟩ := h
      refine Xi.up (pc' := 87) (st' := [zi x18]) (fun _ _ k => x_callVK (ci := 6) (as := [zr a1, zi (mI M a1 3)]) (st := []) hK3 k6_beginNot lm6_258 dX6_beginStatement_84 rfl (by decide) (zs8 rfl) h0.1 ⟨_, _, rfl⟩ hc20 k) ?_
      exact Xi.ret ⟨dX6_beginStatement_87, Or.inl rfl⟩ h
    · refine Xi.up (pc' := 88) (fun _ _ k => x_tsIn (x := x2) (i := 7) dX6_beginStatement_13 (by omega) (by decide) rfl rfl k) ?_
      have h := h.2.2.2.2.1 (by omega)
      refine Xi.up (pc' := 89) (fun _ _ k => x_aload_n dX6_beginStatement_88 rfl rfl k) ?_
      refine Xi.up (pc' := 90) (fun _ _ k => x_aload_n dX6_beginStatement_89 rfl rfl k) ?_
      refine Xi.up (pc' := 91) (fun _ _ k => x_aload_n dX6_beginStatement_90 rfl rfl k) ?_
      refine Xi.up (pc' := 92) (fun _ _ k => x_aload_n dX6_beginStatement_91 rfl rfl k) ?_
      refine Xi.up (pc' := 95) (fun _ _ k => x_getRK hK3 lf6_12 rfl dX6_beginStatement_92 h0.1 h0.2.1 k) ?_
      refine Xi.up (pc' := 96) (fun _ _ k => x_iload_n dX6_beginStatement_95 rfl rfl k) ?_
      obtain ⟨x22, M21, hc24, hK23, h⟩ := h
      refine Xi.up (pc' := 99) (st' := [zi x22, zr a1, zr a1, zr o]) (fun _ _ k => x_callVK (ci := 4) (as := [zi (mI M a1 3)]) (st := [zr a1, zr a1, zr o]) hK3 k4_levelOf lm6_186 dX6_beginStatement_96 rfl (by decide) (zs8 rfl) h0.2.2.2.2.2.2.2.2.2.2.2.1.1 ⟨_, _, rfl⟩ hc24 k) ?_
      obtain ⟨x26, M25, hc28, hK27, h⟩ := h
      refine Xi.up (pc' := 102) (st' := [zi x26, zr a1, zr o]) (fun _ _ k => x_callVK (ci := 8) (as := [zi x22]) (st := [zr a1, zr o]) hK23 k8_markAt lm6_224 dX6_beginStatement_99 rfl (by decide) (zs8 rfl) h1.1 ⟨_, _, rfl⟩ hc28 k) ?_
      obtain ⟨M29, hc31, hK30, h⟩ := h
      refine Xi.up (pc' := 105) (st' := []) (fun _ _ k => x_callVK (ci := 6) (as := [zr a1, zi x26]) (st := []) hK27 k6_drop lm6_227 dX6_beginStatement_102 rfl (by decide) (zs8 rfl) h0.1 ⟨_, _, rfl⟩ hc31 k) ?_
      refine Xi.up (pc' := 106) (fun _ _ k => x_aload_n dX6_beginStatement_105 rfl rfl k) ?_
      refine Xi.up (pc' := 107) (fun _ _ k => x_aload_n dX6_beginStatement_106 rfl rfl k) ?_
      refine Xi.up (pc' := 110) (fun _ _ k => x_getRK hK30 lf6_12 rfl dX6_beginStatement_107 h0.1 h0.2.1 k) ?_
      refine Xi.up (pc' := 111) (fun _ _ k => x_iload_n dX6_beginStatement_110 rfl rfl k) ?_
      obtain ⟨x33, M32, hc35, hK34, h⟩ := h
      refine Xi.up (pc' := 114) (st' := [zi x33, zr a1]) (fun _ _ k => x_callVK (ci := 4) (as := [zi (mI M a1 3)]) (st := [zr a1]) hK30 k4_behind lm6_161 dX6_beginStatement_111 rfl (by decide) (zs8 rfl) h0.2.2.2.2.2.2.2.2.2.2.2.1.1 ⟨_, _, rfl⟩ hc35 k) ?_
      refine Xi.up (pc' := 117) (fun _ _ k => x_putIK hK34 lf6_120 rfl rfl (Or.inl rfl) dX6_beginStatement_114 h1.1 k) ?_
      have hK36 := KW.sI hK34 a1 3 x33
      refine Xi.up (pc' := 118) (fun _ _ k => x_iconst dX6_beginStatement_117 (show inR 0 from ⟨by decide, by decide⟩) k) ?_
      exact Xi.ret ⟨dX6_beginStatement_118, Or.inl rfl⟩ h
set_option maxHeartbeats 4000000 in
set_option maxRecDepth 20000 in
theorem B6_assign {d : Nat} {K M : ZMem} {Q : Int → ZMem → Prop} (o : Nat) (a1 : Nat) (a2 : Int) (hK : KW K M) (h0 : SearchAt K o) (h1 : WayAt K a1) (h : Ci d q4_formulaOf [zr (o + 1), zi a2] M (fun x2 M1 => KW K M1 ∧ Ci d q1_worth [zr (o + 10), zi x2, zr (a1 + 1)] M1 (fun x6 M5 => KW K M5 ∧ ((x6 ≠ 999999 → (Ci d q4_detailOf [zr (o + 1), zi a2] M5 (fun x10 M9 => KW K M9 ∧ Cv d q8_setValue [zr a1, zi x10, zi x6] M9 (fun M13 => KW K M13 ∧ Ci d q4_behind [zr (o + 1), zi a2] M13 (fun x17 M16 => KW K M16 ∧ Q 0 (sI M16 a1 3 x17)))))) ∧ (¬ (x6 ≠ 999999) → (Ci d q6_endWay [zr o] M5 (fun x22 M21 => KW K M21 ∧ Q x22 M21))))))) : Ci (d + 1) q6_assign [zr o, zr a1, zi a2] M Q := by
  refine Ci.of rfl rfl (Nat.le_of_ble_eq_true rfl) (fun w hw x e => by subst e; simp at hw) (L := [some (zr o), some (zr a1), some (zi a2), none]) rfl ?_
  refine Xi.up (pc' := 1) (fun _ _ k => x_aload_n dX6_assign_0 rfl rfl k) ?_
  refine Xi.up (pc' := 4) (fun _ _ k => x_getRK hK lf6_12 rfl dX6_assign_1 h0.1 h0.2.1 k) ?_
  refine Xi.up (pc' := 7) (fun _ _ k => x_getRK hK lf6_261 rfl dX6_assign_4 h0.2.2.2.2.2.2.2.2.2.2.2.1.1 h0.2.2.2.2.2.2.2.2.2.2.2.1.2.2.2.2.2.2.2.2.2.1 k) ?_
  refine Xi.up (pc' := 8) (fun _ _ k => x_aload_n dX6_assign_7 rfl rfl k) ?_
  refine Xi.up (pc' := 11) (fun _ _ k => x_getRK hK lf6_12 rfl dX6_assign_8 h0.1 h0.2.1 k) ?_
  refine Xi.up (pc' := 12) (fun _ _ k => x_iload_n dX6_assign_11 rfl rfl k) ?_
  obtain ⟨x2, M1, hc4, hK3, h⟩ := h
  refine Xi.up (pc' := 15) (st' := [zi x2, zr (o + 10)]) (fun _ _ k => x_callVK (ci := 4) (as := [zi a2]) (st := [zr (o + 10)]) hK k4_formulaOf lm6_265 dX6_assign_12 rfl (by decide) (zs8 rfl) h0.2.2.2.2.2.2.2.2.2.2.2.1.1 ⟨_, _, rfl⟩ hc4 k) ?_
  refine Xi.up (pc' := 16) (fun _ _ k => x_aload_n dX6_assign_15 rfl rfl k) ?_
  refine Xi.up (pc' := 19) (fun _ _ k => x_getRK hK3 lf6_234 rfl dX6_assign_16 h1.1 h1.2.1 k) ?_
  obtain ⟨x6, M5, hc8, hK7, h⟩ := h
  refine Xi.up (pc' := 22) (st' := [zi x6]) (fun _ _ k => x_callVK (ci := 1) (as := [zi x2, zr (a1 + 1)]) (st := []) hK3 k1_worth lm6_268 dX6_assign_19 rfl (by decide) (zs8 rfl) h0.2.2.2.2.2.2.2.2.2.2.2.1.2.2.2.2.2.2.2.2.2.2.2.2.2.2.2.2.2.2.2.1.1 ⟨_, _, rfl⟩ hc8 k) ?_
  refine Xi.up (pc' := 23) (L' := [some (zr o), some (zr a1), some (zi a2), some (zi x6)]) (fun _ _ k => x_istore_n dX6_assign_22 rfl (by decide) rfl k) ?_
  refine Xi.up (pc' := 24) (fun _ _ k => x_iload_n dX6_assign_23 rfl rfl k) ?_
  refine Xi.up (pc' := 27) (fun _ _ k => x_ldcw li6_274 dX6_assign_24 (show inR 999999 from ⟨by decide, by decide⟩) rfl k) ?_
  refine Xi.br (tgt := 35) (pc' := 30) (x6 ≠ 999999) (fun _ _ kt kf => x_icmp_ne dX6_assign_27 rfl kt kf) (fun c => ?_) (fun c => ?_)
  · have h := h.1 c
    refine Xi.up (pc' := 36) (fun _ _ k => x_aload_n dX6_assign_35 rfl rfl k) ?_
    refine Xi.up (pc' := 37) (fun _ _ k => x_aload_n dX6_assign_36 rfl rfl k) ?_
    refine Xi.up (pc' := 40) (fun _ _ k => x_getRK hK7 lf6_12 rfl dX6_assign_37 h0.1 h0.2.1 k) ?_
    refine Xi.up (pc' := 41) (fun _ _ k => x_iload_n dX6_assign_40 rfl rfl k) ?_
    obtain ⟨x10, M9, hc12, hK11, h⟩ := h
    refine Xi.up (pc' := 44) (st' := [zi x10, zr a1]) (fun _ _ k => x_callVK (ci := 4) (as := [zi a2]) (st := [zr a1]) hK7 k4_detailOf lm6_199 dX6_assign_41 rfl (by decide) (zs8 rfl) h0.2.2.2.2.2.2.2.2.2.2.2.1.1 ⟨_, _, rfl⟩ hc12 k) ?_
    refine Xi.up (pc' := 45) (fun _ _ k => x_iload_n dX6_assign_44 rfl rfl k) ?_
    obtain ⟨M13, hc15, hK14, h⟩ := h
    refine Xi.up (pc' := 48) (st' := []) (fun _ _ k => x_callVK (ci := 8) (as := [zi x10, zi x6]) (st := []) hK11 k8_setValue lm6_202 dX6_assign_45 rfl (by decide) (zs8 rfl) h1.1 ⟨_, _, rfl⟩ hc15 k) ?_
    refine Xi.up (pc' := 49) (fun _ _ k => x_aload_n dX6_assign_48 rfl rfl k) ?_
    refine Xi.up (pc' := 50) (fun _ _ k => x_aload_n dX6_assign_49 rfl rfl k) ?_
    refine Xi.up (pc' := 53) (fun _ _ k => x_getRK hK14 lf6_12 rfl dX6_assign_50 h0.1 h0.2.1 k) ?_
    refine Xi.up (pc' := 54) (fun _ _ k => x_iload_n dX6_assign_53 rfl rfl k) ?_
    obtain ⟨x17, M16, hc19, hK18, h⟩ := h
    refine Xi.up (pc' := 57) (st' := [zi x17, zr a1]) (fun _ _ k => x_callVK (ci := 4) (as := [zi a2]) (st := [zr a1]) hK14 k4_behind lm6_161 dX6_assign_54 rfl (by decide) (zs8 rfl) h0.2.2.2.2.2.2.2.2.2.2.2.1.1 ⟨_, _, rfl⟩ hc19 k) ?_
    refine Xi.up (pc' := 60) (fun _ _ k => x_putIK hK18 lf6_120 rfl rfl (Or.inl rfl) dX6_assign_57 h1.1 k) ?_
    have hK20 := KW.sI hK18 a1 3 x17
    refine Xi.up (pc' := 61) (fun _ _ k => x_iconst dX6_assign_60 (show inR 0 from ⟨by decide, by decide⟩) k) ?_
    exact Xi.ret ⟨dX6_assign_61, Or.inl rfl⟩ h
  · have h := h.2 c
    refine Xi.up (pc' := 31) (fun _ _ k => x_aload_n dX6_assign_30 rfl rfl k) ?_
    obtain ⟨x22, M21, hc24, hK23, h⟩ := h
    refine Xi.up (pc' := 34) (st' := [zi x22]) (fun _ _ k => x_callVK (ci := 6) (as := []) (st := []) hK7 k6_endWay lm6_275 dX6_assign_31 rfl (by decide) (zs8 rfl) h0.1 ⟨_, _, rfl⟩ hc24 k) ?_
    exact Xi.ret ⟨dX6_assign_34, Or.inl rfl⟩ h
set_option maxHeartbeats 4000000 in
set_option maxRecDepth 20000 in
theorem B6_test {d : Nat} {K M : ZMem} {Q : Int → ZMem → Prop} (o : Nat) (a1 : Nat) (a2 : Int) (hK : KW K M) (h0 : SearchAt K o) (h1 : WayAt K a1) (h : Ci d q4_formulaOf [zr (o + 1), zi a2] M (fun x2 M1 => KW K M1 ∧ Ci d q1_worth [zr (o + 10), zi x2, zr (a1 + 1)] M1 (fun x6 M5 => KW K M5 ∧ (inR (x2 + 1)) ∧ Ci d q1_worth [zr (o + 10), zi (x2 + 1), zr (a1 + 1)] M5 (fun x11 M10 => KW K M10 ∧ ((x6 = 999999 → (Ci d q6_endWay [zr o] M10 (fun x15 M14 => KW K M14 ∧ Q x15 M14))) ∧ (¬ (x6 = 999999) → ((x11 = 999999 → (Ci d q6_endWay [zr o] M10 (fun x19 M18 => KW K M18 ∧ Q x19 M18))) ∧ (¬ (x11 = 999999) → (Ci d q4_detailOf [zr (o + 1), zi a2] M10 (fun x23 M22 => KW K M22 ∧ Ci d q6_isSo [zi x6, zi x23, zi x11] M22 (fun x27 M26 => KW K M26 ∧ ((x27 ≠ 0 → (Ci d q4_behind [zr (o + 1), zi a2] M26 (fun x31 M30 => KW K M30 ∧ Q 0 (sI M30 a1 3 x31)))) ∧ (¬ (x27 ≠ 0) → (Ci d q6_endWay [zr o] M26 (fun x36 M35 => KW K M35 ∧ Q x36 M35))))))))))))))) : Ci (d + 1) q6_test [zr o, zr a1, zi a2] M Q := by
  refine Ci.of rfl rfl (Nat.le_of_ble_eq_true rfl) (fun w hw x e => by subst e; simp at hw) (L := [some (zr o), some (zr a1), some (zi a2), none, none, none]) rfl ?_
  refine Xi.up (pc' := 1) (fun _ _ k => x_aload_n dX6_test_0 rfl rfl k) ?_
  refine Xi.up (pc' := 4) (fun _ _ k => x_getRK hK lf6_12 rfl dX6_test_1 h0.1 h0.2.1 k) ?_
  refine Xi.up (pc' := 5) (fun _ _ k => x_iload_n dX6_test_4 rfl rfl k) ?_
  obtain ⟨x2, M1, hc4, hK3, h⟩ := h
  refine Xi.up (pc' := 8) (st' := [zi x2]) (fun _ _ k => x_callVK (ci := 4) (as := [zi a2]) (st := []) hK k4_formulaOf lm6_265 dX6_test_5 rfl (by decide) (zs8 rfl) h0.2.2.2.2.2.2.2.2.2.2.2.1.1 ⟨_, _, rfl⟩ hc4 k) ?_
  refine Xi.up (pc' := 9) (L' := [some (zr o), some (zr a1), some (zi a2), some (zi x2), none, none]) (fun _ _ k => x_istore_n dX6_test_8 rfl (by decide) rfl k) ?_
  refine Xi.up (pc' := 10) (fun _ _ k => x_aload_n dX6_test_9 rfl rfl k) ?_
  refine Xi.up (pc' := 13) (fun _ _ k => x_getRK hK3 lf6_12 rfl dX6_test_10 h0.1 h0.2.1 k) ?_
  refine Xi.up (pc' := 16) (fun _ _ k => x_getRK hK3 lf6_261 rfl dX6_test_13 h0.2.2.2.2.2.2.2.2.2.2.2.1.1 h0.2.2.2.2.2.2.2.2.2.2.2.1.2.2.2.2.2.2.2.2.2.1 k) ?_
  refine Xi.up (pc' := 17) (fun _ _ k => x_iload_n dX6_test_16 rfl rfl k) ?_
  refine Xi.up (pc' := 18) (fun _ _ k => x_aload_n dX6_test_17 rfl rfl k) ?_
  refine Xi.up (pc' := 21) (fun _ _ k => x_getRK hK3 lf6_234 rfl dX6_test_18 h1.1 h1.2.1 k) ?_
  obtain ⟨x6, M5, hc8, hK7, h⟩ := h
  refine Xi.up (pc' := 24) (st' := [zi x6]) (fun _ _ k => x_callVK (ci := 1) (as := [zi x2, zr (a1 + 1)]) (st := []) hK3 k1_worth lm6_268 dX6_test_21 rfl (by decide) (zs8 rfl) h0.2.2.2.2.2.2.2.2.2.2.2.1.2.2.2.2.2.2.2.2.2.2.2.2.2.2.2.2.2.2.2.1.1 ⟨_, _, rfl⟩ hc8 k) ?_
  refine Xi.up (pc' := 26) (L' := [some (zr o), some (zr a1), some (zi a2), some (zi x2), some (zi x6), none]) (fun _ _ k => x_istore dX6_test_24 (by decide) rfl k) ?_
  refine Xi.up (pc' := 27) (fun _ _ k => x_aload_n dX6_test_26 rfl rfl k) ?_
  refine Xi.up (pc' := 30) (fun _ _ k => x_getRK hK7 lf6_12 rfl dX6_test_27 h0.1 h0.2.1 k) ?_
  refine Xi.up (pc' := 33) (fun _ _ k => x_getRK hK7 lf6_261 rfl dX6_test_30 h0.2.2.2.2.2.2.2.2.2.2.2.1.1 h0.2.2.2.2.2.2.2.2.2.2.2.1.2.2.2.2.2.2.2.2.2.1 k) ?_
  refine Xi.up (pc' := 34) (fun _ _ k => x_iload_n dX6_test_33 rfl rfl k) ?_
  refine Xi.up (pc' := 35) (fun _ _ k => x_iconst dX6_test_34 (show inR 1 from ⟨by decide, by decide⟩) k) ?_
  obtain ⟨g9, h⟩ := h
  refine Xi.up (pc' := 36) (fun _ _ k => x_iadd dX6_test_35 g9 k) ?_
  refine Xi.up (pc' := 37) (fun _ _ k => x_aload_n dX6_test_36 rfl rfl k) ?_
  refine Xi.up (pc' := 40) (fun _ _ k => x_getRK hK7 lf6_234 rfl dX6_test_37 h1.1 h1.2.1 k) ?_
  obtain ⟨x11, M10, hc13, hK12, h⟩ := h
  refine Xi.up (pc' := 43) (st' := [zi x11]) (fun _ _ k => x_callVK (ci := 1) (as := [zi (x2 + 1), zr (a1 + 1)]) (st := []) hK7 k1_worth lm6_268 dX6_test_40 rfl (by decide) (zs8 rfl) h0.2.2.2.2.2.2.2.2.2.2.2.1.2.2.2.2.2.2.2.2.2.2.2.2.2.2.2.2.2.2.2.1.1 ⟨_, _, rfl⟩ hc13 k) ?_
  refine Xi.up (pc' := 45) (L' := [some (zr o), some (zr a1), some (zi a2), some (zi x2), some (zi x6), some (zi x11)]) (fun _ _ k => x_istore dX6_test_43 (by decide) rfl k) ?_
  refine Xi.up (pc' := 47) (fun _ _ k => x_iload dX6_test_45 rfl k) ?_
  refine Xi.up (pc' := 50) (fun _ _ k => x_ldcw li6_274 dX6_test_47 (show inR 999999 from ⟨by decide, by decide⟩) rfl k) ?_
  refine Xi.br (tgt := 79) (pc' := 53) (x6 = 999999) (fun _ _ kt kf => x_icmp_eq dX6_test_50 rfl kt kf) (fun c => ?_) (fun c => ?_)
  · have h := h.1 c
    refine Xi.up (pc' := 80) (fun _ _ k => x_aload_n dX6_test_79 rfl rfl k) ?_
    obtain ⟨x15, M14, hc17, hK16, h⟩ := h
    refine Xi.up (pc' := 83) (st' := [zi x15]) (fun _ _ k => x_callVK (ci := 6) (as := []) (st := []) hK12 k6_endWay lm6_275 dX6_test_80 rfl (by decide) (zs8 rfl) h0.1 ⟨_, _, rfl⟩ hc17 k) ?_
    exact Xi.ret ⟨dX6_test_83, Or.inl rfl⟩ h
  · have h := h.2 c
    refine Xi.up (pc' := 55) (fun _ _ k => x_iload dX6_test_53 rfl k) ?_
    refine Xi.up (pc' := 58) (fun _ _ k => x_ldcw li6_274 dX6_test_55 (show inR 999999 from ⟨by decide, by decide⟩) rfl k) ?_
    refine Xi.br (tgt := 79) (pc' := 61) (x11 = 999999) (fun _ _ kt kf => x_icmp_eq dX6_test_58 rfl kt kf) (fun c => ?_) (fun c => ?_)
    · have h := h.1 c
      refine Xi.up (pc' := 80) (fun _ _ k => x_aload_n dX6_test_79 rfl rfl k) ?_
      obtain ⟨x19, M18, hc21, hK20, h⟩ := h
      refine Xi.up (pc' := 83) (st' := [zi x19]) (fun _ _ k => x_callVK (ci := 6) (as := []) (st := []) hK12 k6_endWay lm6_275 dX6_test_80 rfl (by decide) (zs8 rfl) h0.1 ⟨_, _, rfl⟩ hc21 k) ?_
      exact Xi.ret ⟨dX6_test_83, Or.inl rfl⟩ h
    · have h := h.2 c
      refine Xi.up (pc' := 63) (fun _ _ k => x_iload dX6_test_61 rfl k) ?_
      refine Xi.up (pc' := 64) (fun _ _ k => x_aload_n dX6_test_63 rfl rfl k) ?_
      refine Xi.up (pc' := 67) (fun _ _ k => x_getRK hK12 lf6_12 rfl dX6_test_64 h0.1 h0.2.1 k) ?_
      refine Xi.up (pc' := 68) (fun _ _ k => x_iload_n dX6_test_67 rfl rfl k) ?_
      obtain ⟨x23, M22, hc25, hK24, h⟩ := h
      refine Xi.up (pc' := 71) (st' := [zi x23, zi x6]) (fun _ _ k => x_callVK (ci := 4) (as := [zi a2]) (st := [zi x6]) hK12 k4_detailOf lm6_199 dX6_test_68 rfl (by decide) (zs8 rfl) h0.2.2.2.2.2.2.2.2.2.2.2.1.1 ⟨_, _, rfl⟩ hc25 k) ?_
      refine Xi.up (pc' := 73) (fun _ _ k => x_iload dX6_test_71 rfl k) ?_
      obtain ⟨x27, M26, hc29, hK28, h⟩ := h
      refine Xi.up (pc' := 76) (st' := [zi x27]) (fun _ _ k => x_callS (as := [zi x6, zi x23, zi x11]) (st := []) k6_isSo lm6_278 dX6_test_73 rfl (by decide) (zs8 rfl) hc29 k) ?_
      refine Xi.br (tgt := 84) (pc' := 79) (x27 ≠ 0) (fun _ _ kt kf => x_if_ne dX6_test_76 rfl kt kf) (fun c => ?_) (fun c => ?_)
      · have h := h.1 c
        refine Xi.up (pc' := 85) (fun _ _ k => x_aload_n dX6_test_84 rfl rfl k) ?_
        refine Xi.up (pc' := 86) (fun _ _ k => x_aload_n dX6_test_85 rfl rfl k) ?_
        refine Xi.up (pc' := 89) (fun _ _ k => x_getRK hK28 lf6_12 rfl dX6_test_86 h0.1 h0.2.1 k) ?_
        refine Xi.up (pc' := 90) (fun _ _ k => x_iload_n dX6_test_89 rfl rfl k) ?_
        obtain ⟨x31, M30, hc33, hK32, h⟩ := h
        refine Xi.up (pc' := 93) (st' := [zi x31, zr a1]) (fun _ _ k => x_callVK (ci := 4) (as := [zi a2]) (st := [zr a1]) hK28 k4_behind lm6_161 dX6_test_90 rfl (by decide) (zs8 rfl) h0.2.2.2.2.2.2.2.2.2.2.2.1.1 ⟨_, _, rfl⟩ hc33 k) ?_
        refine Xi.up (pc' := 96) (fun _ _ k => x_putIK hK32 lf6_120 rfl rfl (Or.inl rfl) dX6_test_93 h1.1 k) ?_
        have hK34 := KW.sI hK32 a1 3 x31
        refine Xi.up (pc' := 97) (fun _ _ k => x_iconst dX6_test_96 (show inR 0 from ⟨by decide, by decide⟩) k) ?_
        exact Xi.ret ⟨dX6_test_97, Or.inl rfl⟩ h
      · have h := h.2 c
        refine Xi.up (pc' := 80) (fun _ _ k => x_aload_n dX6_test_79 rfl rfl k) ?_
        obtain ⟨x36, M35, hc38, hK37, h⟩ := h
        refine Xi.up (pc' := 83) (st' := [zi x36]) (fun _ _ k => x_callVK (ci := 6) (as := []) (st := []) hK28 k6_endWay lm6_275 dX6_test_80 rfl (by decide) (zs8 rfl) h0.1 ⟨_, _, rfl⟩ hc38 k) ?_
        exact Xi.ret ⟨dX6_test_83, Or.inl rfl⟩ h
set_option maxHeartbeats 4000000 in
set_option maxRecDepth 20000 in
theorem B6_isSo {d : Nat} {K M : ZMem} {Q : Int → ZMem → Prop} (a1 : Int) (a2 : Int) (a3 : Int) (hK : KW K M)  (h : ((a2 = 60 → ((a3 ≤ a1 → (Q 0 M)) ∧ (¬ (a3 ≤ a1) → (Q 1 M)))) ∧ (a2 = 61 → ((a1 ≠ a3 → (Q 0 M)) ∧ (¬ (a1 ≠ a3) → (Q 1 M)))) ∧ (a2 = 62 → ((a1 ≤ a3 → (Q 0 M)) ∧ (¬ (a1 ≤ a3) → (Q 1 M)))) ∧ (a2 < 60 ∨ 62 < a2 → ((a1 = a3 → (Q 0 M)) ∧ (¬ (a1 = a3) → (Q 1 M)))))) : Ci d q6_isSo [zi a1, zi a2, zi a3] M Q := by
  refine Ci.of rfl rfl (Nat.le_of_ble_eq_true rfl) (fun w hw x e => by subst e; simp at hw) (L := [some (zi a1), some (zi a2), some (zi a3)]) rfl ?_
  refine Xi.up (pc' := 1) (fun _ _ k => x_iload_n dX6_isSo_0 rfl rfl k) ?_
  by_cases c : a2 < 60 ∨ 62 < a2
  · refine Xi.up (pc' := 61) (fun _ _ k => x_tsOut dX6_isSo_1 c rfl k) ?_
    have h := h.2.2.2 (by omega)
    refine Xi.up (pc' := 62) (fun _ _ k => x_iload_n dX6_isSo_61 rfl rfl k) ?_
    refine Xi.up (pc' := 63) (fun _ _ k => x_iload_n dX6_isSo_62 rfl rfl k) ?_
    refine Xi.br (tgt := 70) (pc' := 66) (a1 = a3) (fun _ _ kt kf => x_icmp_eq dX6_isSo_63 rfl kt kf) (fun c => ?_) (fun c => ?_)
    · have h := h.1 c
      refine Xi.up (pc' := 71) (fun _ _ k => x_iconst dX6_isSo_70 (show inR 0 from ⟨by decide, by decide⟩) k) ?_
      exact Xi.ret ⟨dX6_isSo_71, Or.inr ⟨rfl, Or.inl rfl⟩⟩ h
    · have h := h.2 c
      refine Xi.up (pc' := 67) (fun _ _ k => x_iconst dX6_isSo_66 (show inR 1 from ⟨by decide, by decide⟩) k) ?_
      refine Xi.up (pc' := 71) (fun _ _ k => x_goto dX6_isSo_67 rfl k) ?_
      exact Xi.ret ⟨dX6_isSo_71, Or.inr ⟨rfl, Or.inr rfl⟩⟩ h
  · rcases (show a2 = 60 ∨ a2 = 61 ∨ a2 = 62 by omega) with c | c | c
    · refine Xi.up (pc' := 28) (fun _ _ k => x_tsIn (x := a2) (i := 0) dX6_isSo_1 (by omega) (by decide) rfl rfl k) ?_
      have h := h.1 (by omega)
      refine Xi.up (pc' := 29) (fun _ _ k => x_iload_n dX6_isSo_28 rfl rfl k) ?_
      refine Xi.up (pc' := 30) (fun _ _ k => x_iload_n dX6_isSo_29 rfl rfl k) ?_
      refine Xi.br (tgt := 37) (pc' := 33) (a3 ≤ a1) (fun _ _ kt kf => x_icmp_ge dX6_isSo_30 rfl kt kf) (fun c => ?_) (fun c => ?_)
      · have h := h.1 c
        refine Xi.up (pc' := 38) (fun _ _ k => x_iconst dX6_isSo_37 (show inR 0 from ⟨by decide, by decide⟩) k) ?_
        exact Xi.ret ⟨dX6_isSo_38, Or.inr ⟨rfl, Or.inl rfl⟩⟩ h
      · have h := h.2 c
        refine Xi.up (pc' := 34) (fun _ _ k => x_iconst dX6_isSo_33 (show inR 1 from ⟨by decide, by decide⟩) k) ?_
        refine Xi.up (pc' := 38) (fun _ _ k => x_goto dX6_isSo_34 rfl k) ?_
        exact Xi.ret ⟨dX6_isSo_38, Or.inr ⟨rfl, Or.inr rfl⟩⟩ h
    · refine Xi.up (pc' := 39) (fun _ _ k => x_tsIn (x := a2) (i := 1) dX6_isSo_1 (by omega) (by decide) rfl rfl k) ?_
      have h := h.2.1 (by omega)
      refine Xi.up (pc' := 40) (fun _ _ k => x_iload_n dX6_isSo_39 rfl rfl k) ?_
      refine Xi.up (pc' := 41) (fun _ _ k => x_iload_n dX6_isSo_40 rfl rfl k) ?_
      refine Xi.br (tgt := 48) (pc' := 44) (a1 ≠ a3) (fun _ _ kt kf => x_icmp_ne dX6_isSo_41 rfl kt kf) (fun c => ?_) (fun c => ?_)
      · have h := h.1 c
        refine Xi.up (pc' := 49) (fun _ _ k => x_iconst dX6_isSo_48 (show inR 0 from ⟨by decide, by decide⟩) k) ?_
        exact Xi.ret ⟨dX6_isSo_49, Or.inr ⟨rfl, Or.inl rfl⟩⟩ h
      · have h := h.2 c
        refine Xi.up (pc' := 45) (fun _ _ k => x_iconst dX6_isSo_44 (show inR 1 from ⟨by decide, by decide⟩) k) ?_
        refine Xi.up (pc' := 49) (fun _ _ k => x_goto dX6_isSo_45 rfl k) ?_
        exact Xi.ret ⟨dX6_isSo_49, Or.inr ⟨rfl, Or.inr rfl⟩⟩ h
    · refine Xi.up (pc' := 50) (fun _ _ k => x_tsIn (x := a2) (i := 2) dX6_isSo_1 (by omega) (by decide) rfl rfl k) ?_
      have h := h.2.2.1 (by omega)
      refine Xi.up (pc' := 51) (fun _ _ k => x_iload_n dX6_isSo_50 rfl rfl k) ?_
      refine Xi.up (pc' := 52) (fun _ _ k => x_iload_n dX6_isSo_51 rfl rfl k) ?_
      refine Xi.br (tgt := 59) (pc' := 55) (a1 ≤ a3) (fun _ _ kt kf => x_icmp_le dX6_isSo_52 rfl kt kf) (fun c => ?_) (fun c => ?_)
      · have h := h.1 c
        refine Xi.up (pc' := 60) (fun _ _ k => x_iconst dX6_isSo_59 (show inR 0 from ⟨by decide, by decide⟩) k) ?_
        exact Xi.ret ⟨dX6_isSo_60, Or.inr ⟨rfl, Or.inl rfl⟩⟩ h
      · have h := h.2 c
        refine Xi.up (pc' := 56) (fun _ _ k => x_iconst dX6_isSo_55 (show inR 1 from ⟨by decide, by decide⟩) k) ?_
        refine Xi.up (pc' := 60) (fun _ _ k => x_goto dX6_isSo_56 rfl k) ?_
        exact Xi.ret ⟨dX6_isSo_60, Or.inr ⟨rfl, Or.inr rfl⟩⟩ h
set_option maxHeartbeats 4000000 in
set_option maxRecDepth 20000 in
theorem B6_beginNot {d : Nat} {K M : ZMem} {Q : Int → ZMem → Prop} (o : Nat) (a1 : Nat) (a2 : Int) (hK : KW K M) (h0 : SearchAt K o) (h1 : WayAt K a1) (h : (inR ((mI M o 11) + 1)) ∧ ((((mI M o 11) + 1) < 1 → (Ci d q6_endWay [zr o] M (fun x3 M2 => KW K M2 ∧ Q x3 M2))) ∧ (¬ (((mI M o 11) + 1) < 1) → ((7 ≤ ((mI M o 11) + 1) → (Ci d q6_endWay [zr o] M (fun x7 M6 => KW K M6 ∧ Q x7 M6))) ∧ (¬ (7 ≤ ((mI M o 11) + 1)) → ((((mI M o 11) + 1) < 7 → ((0 ≤ ((mI M o 11) + 1)) ∧ (((mI M o 11) + 1) < 7) ∧ (0 ≤ ((mI M o 11) + 1)) ∧ (((mI M o 11) + 1) < 7) ∧ (WayAt K (mR (sI (sI M o 11 ((mI M o 11) + 1)) (o + 425) (((mI M o 11) + 1).toNat) (mI (sI M o 11 ((mI M o 11) + 1)) (o + 208) 1)) (o + 396) ((mI M o 11) + 1).toNat)) ∧ Cv d q8_become [zr (mR (sI (sI M o 11 ((mI M o 11) + 1)) (o + 425) (((mI M o 11) + 1).toNat) (mI (sI M o 11 ((mI M o 11) + 1)) (o + 208) 1)) (o + 396) ((mI M o 11) + 1).toNat), zr a1] (sI (sI M o 11 ((mI M o 11) + 1)) (o + 425) (((mI M o 11) + 1).toNat) (mI (sI M o 11 ((mI M o 11) + 1)) (o + 208) 1)) (fun M17 => KW K M17 ∧ Ci d q4_partFirst [zr (o + 1), zi a2, zi 0] (sI M17 (mR (sI (sI M o 11 ((mI M o 11) + 1)) (o + 425) (((mI M o 11) + 1).toNat) (mI (sI M o 11 ((mI M o 11) + 1)) (o + 208) 1)) (o + 396) ((mI M o 11) + 1).toNat) 7 0) (fun x22 M21 => KW K M21 ∧ Ci d q4_levelOf [zr (o + 1), zi a2] M21 (fun x26 M25 => KW K M25 ∧ (inR (x26 + 1)) ∧ Cv d q8_enter [zr (mR (sI (sI M o 11 ((mI M o 11) + 1)) (o + 425) (((mI M o 11) + 1).toNat) (mI (sI M o 11 ((mI M o 11) + 1)) (o + 208) 1)) (o + 396) ((mI M o 11) + 1).toNat), zi a2, zi x22, zi (x26 + 1)] M25 (fun M30 => KW K M30 ∧ Q 0 M30)))))) ∧ (¬ (((mI M o 11) + 1) < 7) → (Ci d q6_endWay [zr o] M (fun x34 M33 => KW K M33 ∧ Q x34 M33))))))))) : Ci (d + 1) q6_beginNot [zr o, zr a1, zi a2] M Q := by
  refine Ci.of rfl rfl (Nat.le_of_ble_eq_true rfl) (fun w hw x e => by subst e; simp at hw) (L := [some (zr o), some (zr a1), some (zi a2), none, none]) rfl ?_
  refine Xi.up (pc' := 1) (fun _ _ k => x_aload_n dX6_beginNot_0 rfl rfl k) ?_
  refine Xi.up (pc' := 4) (fun _ _ k => x_getIK hK lf6_74 rfl dX6_beginNot_1 h0.1 k) ?_
  refine Xi.up (pc' := 5) (fun _ _ k => x_iconst dX6_beginNot_4 (show inR 1 from ⟨by decide, by decide⟩) k) ?_
  obtain ⟨g1, h⟩ := h
  refine Xi.up (pc' := 6) (fun _ _ k => x_iadd dX6_beginNot_5 g1 k) ?_
  refine Xi.up (pc' := 7) (L' := [some (zr o), some (zr a1), some (zi a2), some (zi ((mI M o 11) + 1)), none]) (fun _ _ k => x_istore_n dX6_beginNot_6 rfl (by decide) rfl k) ?_
  refine Xi.up (pc' := 8) (fun _ _ k => x_iload_n dX6_beginNot_7 rfl rfl k) ?_
  refine Xi.up (pc' := 9) (fun _ _ k => x_iconst dX6_beginNot_8 (show inR 1 from ⟨by decide, by decide⟩) k) ?_
  refine Xi.br (tgt := 30) (pc' := 12) (((mI M o 11) + 1) < 1) (fun _ _ kt kf => x_icmp_lt dX6_beginNot_9 rfl kt kf) (fun c => ?_) (fun c => ?_)
  · have h := h.1 c
    refine Xi.up (pc' := 31) (fun _ _ k => x_aload_n dX6_beginNot_30 rfl rfl k) ?_
    obtain ⟨x3, M2, hc5, hK4, h⟩ := h
    refine Xi.up (pc' := 34) (st' := [zi x3]) (fun _ _ k => x_callVK (ci := 6) (as := []) (st := []) hK k6_endWay lm6_275 dX6_beginNot_31 rfl (by decide) (zs8 rfl) h0.1 ⟨_, _, rfl⟩ hc5 k) ?_
    exact Xi.ret ⟨dX6_beginNot_34, Or.inl rfl⟩ h
  · have h := h.2 c
    refine Xi.up (pc' := 13) (fun _ _ k => x_iload_n dX6_beginNot_12 rfl rfl k) ?_
    refine Xi.up (pc' := 14) (fun _ _ k => x_aload_n dX6_beginNot_13 rfl rfl k) ?_
    refine Xi.up (pc' := 17) (fun _ _ k => x_getRK hK lf6_37 rfl dX6_beginNot_14 h0.1 h0.2.2.2.2.2.1 k) ?_
    refine Xi.up (pc' := 18) (fun _ _ k => x_alenK hK dX6_beginNot_17 h0.2.2.2.2.2.2.2.2.1 (by decide) (by decide) k) ?_
    refine Xi.br (tgt := 30) (pc' := 21) (7 ≤ ((mI M o 11) + 1)) (fun _ _ kt kf => x_icmp_ge dX6_beginNot_18 rfl kt kf) (fun c => ?_) (fun c => ?_)
    · have h := h.1 c
      refine Xi.up (pc' := 31) (fun _ _ k => x_aload_n dX6_beginNot_30 rfl rfl k) ?_
      obtain ⟨x7, M6, hc9, hK8, h⟩ := h
      refine Xi.up (pc' := 34) (st' := [zi x7]) (fun _ _ k => x_callVK (ci := 6) (as := []) (st := []) hK k6_endWay lm6_275 dX6_beginNot_31 rfl (by decide) (zs8 rfl) h0.1 ⟨_, _, rfl⟩ hc9 k) ?_
      exact Xi.ret ⟨dX6_beginNot_34, Or.inl rfl⟩ h
    · have h := h.2 c
      refine Xi.up (pc' := 22) (fun _ _ k => x_iload_n dX6_beginNot_21 rfl rfl k) ?_
      refine Xi.up (pc' := 23) (fun _ _ k => x_aload_n dX6_beginNot_22 rfl rfl k) ?_
      refine Xi.up (pc' := 26) (fun _ _ k => x_getRK hK lf6_42 rfl dX6_beginNot_23 h0.1 h0.2.2.2.2.2.2.1 k) ?_
      refine Xi.up (pc' := 27) (fun _ _ k => x_alenK hK dX6_beginNot_26 h0.2.2.2.2.2.2.2.2.2.1 (by decide) (by decide) k) ?_
      refine Xi.br (tgt := 35) (pc' := 30) (((mI M o 11) + 1) < 7) (fun _ _ kt kf => x_icmp_lt dX6_beginNot_27 rfl kt kf) (fun c => ?_) (fun c => ?_)
      · have h := h.1 c
        refine Xi.up (pc' := 36) (fun _ _ k => x_aload_n dX6_beginNot_35 rfl rfl k) ?_
        refine Xi.up (pc' := 37) (fun _ _ k => x_iload_n dX6_beginNot_36 rfl rfl k) ?_
        refine Xi.up (pc' := 40) (fun _ _ k => x_putIK hK lf6_74 rfl rfl (Or.inl rfl) dX6_beginNot_37 h0.1 k) ?_
        have hK10 := KW.sI hK o 11 ((mI M o 11) + 1)
        refine Xi.up (pc' := 41) (fun _ _ k => x_aload_n dX6_beginNot_40 rfl rfl k) ?_
        refine Xi.up (pc' := 44) (fun _ _ k => x_getRK hK10 lf6_42 rfl dX6_beginNot_41 h0.1 h0.2.2.2.2.2.2.1 k) ?_
        refine Xi.up (pc' := 45) (fun _ _ k => x_iload_n dX6_beginNot_44 rfl rfl k) ?_
        refine Xi.up (pc' := 46) (fun _ _ k => x_aload_n dX6_beginNot_45 rfl rfl k) ?_
        refine Xi.up (pc' := 49) (fun _ _ k => x_getRK hK10 lf6_32 rfl dX6_beginNot_46 h0.1 h0.2.2.2.2.1 k) ?_
        refine Xi.up (pc' := 52) (fun _ _ k => x_getIK hK10 lf6_63 rfl dX6_beginNot_49 h0.2.2.2.2.2.2.2.2.2.2.2.2.2.2.1.1 k) ?_
        obtain ⟨g11, h⟩ := h
        obtain ⟨g12, h⟩ := h
        refine Xi.up (pc' := 53) (fun _ _ k => x_iastoreK hK10 dX6_beginNot_52 h0.2.2.2.2.2.2.2.2.2.1 g11 g12 k) ?_
        have hK13 := KW.sI hK10 (o + 425) (((mI M o 11) + 1).toNat) (mI (sI M o 11 ((mI M o 11) + 1)) (o + 208) 1)
        refine Xi.up (pc' := 54) (fun _ _ k => x_aload_n dX6_beginNot_53 rfl rfl k) ?_
        refine Xi.up (pc' := 57) (fun _ _ k => x_getRK hK13 lf6_37 rfl dX6_beginNot_54 h0.1 h0.2.2.2.2.2.1 k) ?_
        refine Xi.up (pc' := 58) (fun _ _ k => x_iload_n dX6_beginNot_57 rfl rfl k) ?_
        obtain ⟨g14, h⟩ := h
        obtain ⟨g15, h⟩ := h
        refine Xi.up (pc' := 59) (fun _ _ k => x_aaloadK hK13 dX6_beginNot_58 h0.2.2.2.2.2.2.2.2.1 (by decide) g14 g15 k) ?_
        refine Xi.up (pc' := 61) (L' := [some (zr o), some (zr a1), some (zi a2), some (zi ((mI M o 11) + 1)), some (zr (mR (sI (sI M o 11 ((mI M o 11) + 1)) (o + 425) (((mI M o 11) + 1).toNat) (mI (sI M o 11 ((mI M o 11) + 1)) (o + 208) 1)) (o + 396) ((mI M o 11) + 1).toNat))]) (fun _ _ k => x_astore dX6_beginNot_59 (by decide) rfl k) ?_
        refine Xi.up (pc' := 63) (fun _ _ k => x_aload dX6_beginNot_61 rfl k) ?_
        refine Xi.up (pc' := 64) (fun _ _ k => x_aload_n dX6_beginNot_63 rfl rfl k) ?_
        obtain ⟨g16, h⟩ := h
        obtain ⟨M17, hc19, hK18, h⟩ := h
        refine Xi.up (pc' := 67) (st' := []) (fun _ _ k => x_callVK (ci := 8) (as := [zr a1]) (st := []) hK13 k8_become lm6_93 dX6_beginNot_64 rfl (by decide) (zs8 rfl) g16.1 ⟨_, _, rfl⟩ hc19 k) ?_
        refine Xi.up (pc' := 69) (fun _ _ k => x_aload dX6_beginNot_67 rfl k) ?_
        refine Xi.up (pc' := 70) (fun _ _ k => x_iconst dX6_beginNot_69 (show inR 0 from ⟨by decide, by decide⟩) k) ?_
        refine Xi.up (pc' := 73) (fun _ _ k => x_putIK hK18 lf6_170 rfl rfl (Or.inl rfl) dX6_beginNot_70 g16.1 k) ?_
        have hK20 := KW.sI hK18 (mR (sI (sI M o 11 ((mI M o 11) + 1)) (o + 425) (((mI M o 11) + 1).toNat) (mI (sI M o 11 ((mI M o 11) + 1)) (o + 208) 1)) (o + 396) ((mI M o 11) + 1).toNat) 7 0
        refine Xi.up (pc' := 75) (fun _ _ k => x_aload dX6_beginNot_73 rfl k) ?_
        refine Xi.up (pc' := 76) (fun _ _ k => x_iload_n dX6_beginNot_75 rfl rfl k) ?_
        refine Xi.up (pc' := 77) (fun _ _ k => x_aload_n dX6_beginNot_76 rfl rfl k) ?_
        refine Xi.up (pc' := 80) (fun _ _ k => x_getRK hK20 lf6_12 rfl dX6_beginNot_77 h0.1 h0.2.1 k) ?_
        refine Xi.up (pc' := 81) (fun _ _ k => x_iload_n dX6_beginNot_80 rfl rfl k) ?_
        refine Xi.up (pc' := 82) (fun _ _ k => x_iconst dX6_beginNot_81 (show inR 0 from ⟨by decide, by decide⟩) k) ?_
        obtain ⟨x22, M21, hc24, hK23, h⟩ := h
        refine Xi.up (pc' := 85) (st' := [zi x22, zi a2, zr (mR (sI (sI M o 11 ((mI M o 11) + 1)) (o + 425) (((mI M o 11) + 1).toNat) (mI (sI M o 11 ((mI M o 11) + 1)) (o + 208) 1)) (o + 396) ((mI M o 11) + 1).toNat)]) (fun _ _ k => x_callVK (ci := 4) (as := [zi a2, zi 0]) (st := [zi a2, zr (mR (sI (sI M o 11 ((mI M o 11) + 1)) (o + 425) (((mI M o 11) + 1).toNat) (mI (sI M o 11 ((mI M o 11) + 1)) (o + 208) 1)) (o + 396) ((mI M o 11) + 1).toNat)]) hK20 k4_partFirst lm6_182 dX6_beginNot_82 rfl (by decide) (zs8 rfl) h0.2.2.2.2.2.2.2.2.2.2.2.1.1 ⟨_, _, rfl⟩ hc24 k) ?_
        refine Xi.up (pc' := 86) (fun _ _ k => x_aload_n dX6_beginNot_85 rfl rfl k) ?_
        refine Xi.up (pc' := 89) (fun _ _ k => x_getRK hK23 lf6_12 rfl dX6_beginNot_86 h0.1 h0.2.1 k) ?_
        refine Xi.up (pc' := 90) (fun _ _ k => x_iload_n dX6_beginNot_89 rfl rfl k) ?_
        obtain ⟨x26, M25, hc28, hK27, h⟩ := h
        refine Xi.up (pc' := 93) (st' := [zi x26, zi x22, zi a2, zr (mR (sI (sI M o 11 ((mI M o 11) + 1)) (o + 425) (((mI M o 11) + 1).toNat) (mI (sI M o 11 ((mI M o 11) + 1)) (o + 208) 1)) (o + 396) ((mI M o 11) + 1).toNat)]) (fun _ _ k => x_callVK (ci := 4) (as := [zi a2]) (st := [zi x22, zi a2, zr (mR (sI (sI M o 11 ((mI M o 11) + 1)) (o + 425) (((mI M o 11) + 1).toNat) (mI (sI M o 11 ((mI M o 11) + 1)) (o + 208) 1)) (o + 396) ((mI M o 11) + 1).toNat)]) hK23 k4_levelOf lm6_186 dX6_beginNot_90 rfl (by decide) (zs8 rfl) h0.2.2.2.2.2.2.2.2.2.2.2.1.1 ⟨_, _, rfl⟩ hc28 k) ?_
        refine Xi.up (pc' := 94) (fun _ _ k => x_iconst dX6_beginNot_93 (show inR 1 from ⟨by decide, by decide⟩) k) ?_
        obtain ⟨g29, h⟩ := h
        refine Xi.up (pc' := 95) (fun _ _ k => x_iadd dX6_beginNot_94 g29 k) ?_
        obtain ⟨M30, hc32, hK31, h⟩ := h
        refine Xi.up (pc' := 98) (st' := []) (fun _ _ k => x_callVK (ci := 8) (as := [zi a2, zi x22, zi (x26 + 1)]) (st := []) hK27 k8_enter lm6_189 dX6_beginNot_95 rfl (by decide) (zs8 rfl) g16.1 ⟨_, _, rfl⟩ hc32 k) ?_
        refine Xi.up (pc' := 99) (fun _ _ k => x_iconst dX6_beginNot_98 (show inR 0 from ⟨by decide, by decide⟩) k) ?_
        exact Xi.ret ⟨dX6_beginNot_99, Or.inl rfl⟩ h
      · have h := h.2 c
        refine Xi.up (pc' := 31) (fun _ _ k => x_aload_n dX6_beginNot_30 rfl rfl k) ?_
        obtain ⟨x34, M33, hc36, hK35, h⟩ := h
        refine Xi.up (pc' := 34) (st' := [zi x34]) (fun _ _ k => x_callVK (ci := 6) (as := []) (st := []) hK k6_endWay lm6_275 dX6_beginNot_31 rfl (by decide) (zs8 rfl) h0.1 ⟨_, _, rfl⟩ hc36 k) ?_
        exact Xi.ret ⟨dX6_beginNot_34, Or.inl rfl⟩ h
set_option maxHeartbeats 4000000 in
set_option maxRecDepth 20000 in
theorem B6_drop {d : Nat} {K M : ZMem} {Q : ZMem → Prop} (o : Nat) (a1 : Nat) (a2 : Int) (hK : KW K M) (h0 : SearchAt K o) (h1 : WayAt K a1) (h : (((mI M o 11) ≤ 0 → (Ci d q3_drop [zr (o + 20), zr a1, zi a2] M (fun x2 M1 => KW K M1 ∧ Cv d q6_tally [zr o, zi 7, zi x2] M1 (fun M5 => KW K M5 ∧ Q M5)))) ∧ (¬ ((mI M o 11) ≤ 0) → (Ci d q3_drop [zr (o + 208), zr a1, zi a2] M (fun x9 M8 => KW K M8 ∧ Q M8))))) : Cv (d + 1) q6_drop [zr o, zr a1, zi a2] M Q := by
  refine Cv.of rfl rfl (Nat.le_of_ble_eq_true rfl) (fun w hw x e => by subst e; simp at hw) (L := [some (zr o), some (zr a1), some (zi a2)]) rfl ?_
  refine Xv.up (pc' := 1) (fun _ _ k => x_aload_n dX6_drop_0 rfl rfl k) ?_
  refine Xv.up (pc' := 4) (fun _ _ k => x_getIK hK lf6_74 rfl dX6_drop_1 h0.1 k) ?_
  refine Xv.br (tgt := 20) (pc' := 7) ((mI M o 11) ≤ 0) (fun _ _ kt kf => x_if_le dX6_drop_4 rfl kt kf) (fun c => ?_) (fun c => ?_)
  · have h := h.1 c
    refine Xv.up (pc' := 21) (fun _ _ k => x_aload_n dX6_drop_20 rfl rfl k) ?_
    refine Xv.up (pc' := 23) (fun _ _ k => x_bipush dX6_drop_21 (show inR 7 from ⟨by decide, by decide⟩) (by decide) k) ?_
    refine Xv.up (pc' := 24) (fun _ _ k => x_aload_n dX6_drop_23 rfl rfl k) ?_
    refine Xv.up (pc' := 27) (fun _ _ k => x_getRK hK lf6_28 rfl dX6_drop_24 h0.1 h0.2.2.2.1 k) ?_
    refine Xv.up (pc' := 28) (fun _ _ k => x_aload_n dX6_drop_27 rfl rfl k) ?_
    refine Xv.up (pc' := 29) (fun _ _ k => x_iload_n dX6_drop_28 rfl rfl k) ?_
    obtain ⟨x2, M1, hc4, hK3, h⟩ := h
    refine Xv.up (pc' := 32) (st' := [zi x2, zi 7, zr o]) (fun _ _ k => x_callVK (ci := 3) (as := [zr a1, zi a2]) (st := [zi 7, zr o]) hK k3_drop lm6_282 dX6_drop_29 rfl (by decide) (zs8 rfl) h0.2.2.2.2.2.2.2.2.2.2.2.2.2.1.1 ⟨_, _, rfl⟩ hc4 k) ?_
    obtain ⟨M5, hc7, hK6, h⟩ := h
    refine Xv.up (pc' := 35) (st' := []) (fun _ _ k => x_callVK (ci := 6) (as := [zi 7, zi x2]) (st := []) hK3 k6_tally lm6_133 dX6_drop_32 rfl (by decide) (zs8 rfl) h0.1 ⟨_, _, rfl⟩ hc7 k) ?_
    exact Xv.ret ⟨dX6_drop_35, rfl⟩ h
  · have h := h.2 c
    refine Xv.up (pc' := 8) (fun _ _ k => x_aload_n dX6_drop_7 rfl rfl k) ?_
    refine Xv.up (pc' := 11) (fun _ _ k => x_getRK hK lf6_32 rfl dX6_drop_8 h0.1 h0.2.2.2.2.1 k) ?_
    refine Xv.up (pc' := 12) (fun _ _ k => x_aload_n dX6_drop_11 rfl rfl k) ?_
    refine Xv.up (pc' := 13) (fun _ _ k => x_iload_n dX6_drop_12 rfl rfl k) ?_
    obtain ⟨x9, M8, hc11, hK10, h⟩ := h
    refine Xv.up (pc' := 16) (st' := [zi x9]) (fun _ _ k => x_callVK (ci := 3) (as := [zr a1, zi a2]) (st := []) hK k3_drop lm6_282 dX6_drop_13 rfl (by decide) (zs8 rfl) h0.2.2.2.2.2.2.2.2.2.2.2.2.2.2.1.1 ⟨_, _, rfl⟩ hc11 k) ?_
    refine Xv.up (pc' := 17) (fun _ _ k => x_popI dX6_drop_16 k) ?_
    refine Xv.up (pc' := 35) (fun _ _ k => x_goto dX6_drop_17 rfl k) ?_
    exact Xv.ret ⟨dX6_drop_35, rfl⟩ h
set_option maxHeartbeats 4000000 in
set_option maxRecDepth 20000 in
theorem B6_choose {d : Nat} {K M : ZMem} {Q : Int → ZMem → Prop} (o : Nat) (a1 : Nat) (a2 : Int) (hK : KW K M) (h0 : SearchAt K o) (h1 : WayAt K a1) (h : (((mI M o 11) ≤ 0 → (Xi (d + 1) q6_choose 19 [some (zr o), some (zr a1), some (zi a2), some (zr (o + 20)), none, none] [] M Q)) ∧ (¬ ((mI M o 11) ≤ 0) → (Xi (d + 1) q6_choose 19 [some (zr o), some (zr a1), some (zi a2), some (zr (o + 208)), none, none] [] M Q)))) : Ci (d + 1) q6_choose [zr o, zr a1, zi a2] M Q := by
  refine Ci.of rfl rfl (Nat.le_of_ble_eq_true rfl) (fun w hw x e => by subst e; simp at hw) (L := [some (zr o), some (zr a1), some (zi a2), none, none, none]) rfl ?_
  refine Xi.up (pc' := 1) (fun _ _ k => x_aload_n dX6_choose_0 rfl rfl k) ?_
  refine Xi.up (pc' := 4) (fun _ _ k => x_getIK hK lf6_74 rfl dX6_choose_1 h0.1 k) ?_
  refine Xi.br (tgt := 14) (pc' := 7) ((mI M o 11) ≤ 0) (fun _ _ kt kf => x_if_le dX6_choose_4 rfl kt kf) (fun c => ?_) (fun c => ?_)
  · have h := h.1 c
    refine Xi.up (pc' := 15) (fun _ _ k => x_aload_n dX6_choose_14 rfl rfl k) ?_
    refine Xi.up (pc' := 18) (fun _ _ k => x_getRK hK lf6_28 rfl dX6_choose_15 h0.1 h0.2.2.2.1 k) ?_
    refine Xi.up (pc' := 19) (L' := [some (zr o), some (zr a1), some (zi a2), some (zr (o + 20)), none, none]) (fun _ _ k => x_astore_n dX6_choose_18 rfl (by decide) rfl k) ?_
    exact h
  · have h := h.2 c
    refine Xi.up (pc' := 8) (fun _ _ k => x_aload_n dX6_choose_7 rfl rfl k) ?_
    refine Xi.up (pc' := 11) (fun _ _ k => x_getRK hK lf6_32 rfl dX6_choose_8 h0.1 h0.2.2.2.2.1 k) ?_
    refine Xi.up (pc' := 18) (fun _ _ k => x_goto dX6_choose_11 rfl k) ?_
    refine Xi.up (pc' := 19) (L' := [some (zr o), some (zr a1), some (zi a2), some (zr (o + 208)), none, none]) (fun _ _ k => x_astore_n dX6_choose_18 rfl (by decide) rfl k) ?_
    exact h
set_option maxHeartbeats 4000000 in
set_option maxRecDepth 20000 in
theorem B6_choose_19 {d : Nat} {K M : ZMem} {Q : Int → ZMem → Prop} (o : Nat) (a1 : Nat) (a2 : Int) (l3 : Nat) (hK : KW K M) (h0 : SearchAt K o) (h1 : WayAt K a1) (h : (PointsAt K l3) ∧ Cq d q3_spare [zr l3] M (fun x3 M2 => KW K M2 ∧ ((x3 ≠ 0 → (Ci d q4_kindOf [zr (o + 1), zi a2] M2 (fun x7 M6 => KW K M6 ∧ ((x7 ≠ 5 → ((x7 ≠ 3 → (Ci d q6_prepareAmong [zr o, zr x3, zr a1, zi a2] M6 (fun x11 M10 => KW K M10 ∧ (PointAt K x3) ∧ Xi (d + 1) q6_choose 97 [some (zr o), some (zr a1), none, some (zr l3), some (zr x3), none] [] (sI M10 x3 3 x11) Q))) ∧ (¬ (x7 ≠ 3) → (Ci d q6_prepareUpTo [zr o, zr x3, zr a1, zi a2] M6 (fun x17 M16 => KW K M16 ∧ (PointAt K x3) ∧ Xi (d + 1) q6_choose 97 [some (zr o), some (zr a1), none, some (zr l3), some (zr x3), none] [] (sI M16 x3 3 x17) Q))))) ∧ (¬ (x7 ≠ 5) → (Ci d q4_partsOf [zr (o + 1), zi a2] M6 (fun x23 M22 => KW K M22 ∧ (PointAt K x3) ∧ Xi (d + 1) q6_choose 97 [some (zr o), some (zr a1), none, some (zr l3), some (zr x3), none] [] (sI M22 x3 3 x23) Q))))))) ∧ (¬ (x3 ≠ 0) → (Ci d q6_endWay [zr o] M2 (fun x29 M28 => KW K M28 ∧ Q x29 M28)))))) : Xi (d + 1) q6_choose 19 [some (zr o), some (zr a1), some (zi a2), some (zr l3), none, none] [] M Q := by
  refine Xi.up (pc' := 20) (fun _ _ k => x_aload_n dX6_choose_19 rfl rfl k) ?_
  obtain ⟨g1, h⟩ := h
  obtain ⟨x3, M2, hc5, hK4, h⟩ := h
  refine Xi.up (pc' := 23) (st' := [zr x3]) (fun _ _ k => x_callVK (ci := 3) (as := []) (st := []) hK k3_spare lm6_284 dX6_choose_20 rfl (by decide) (zs8 rfl) g1.1 ⟨_, _, rfl⟩ hc5 k) ?_
  refine Xi.up (pc' := 25) (L' := [some (zr o), some (zr a1), some (zi a2), some (zr l3), some (zr x3), none]) (fun _ _ k => x_astore dX6_choose_23 (by decide) rfl k) ?_
  refine Xi.up (pc' := 27) (fun _ _ k => x_aload dX6_choose_25 rfl k) ?_
  refine Xi.br (tgt := 35) (pc' := 30) (x3 ≠ 0) (fun _ _ kt kf => x_ifnonnull dX6_choose_27 rfl kt (fun e => kf (fun n => n e))) (fun c => ?_) (fun c => ?_)
  · have h := h.1 c
    refine Xi.up (pc' := 36) (fun _ _ k => x_aload_n dX6_choose_35 rfl rfl k) ?_
    refine Xi.up (pc' := 39) (fun _ _ k => x_getRK hK4 lf6_12 rfl dX6_choose_36 h0.1 h0.2.1 k) ?_
    refine Xi.up (pc' := 40) (fun _ _ k => x_iload_n dX6_choose_39 rfl rfl k) ?_
    obtain ⟨x7, M6, hc9, hK8, h⟩ := h
    refine Xi.up (pc' := 43) (st' := [zi x7]) (fun _ _ k => x_callVK (ci := 4) (as := [zi a2]) (st := []) hK4 k4_kindOf lm6_179 dX6_choose_40 rfl (by decide) (zs8 rfl) h0.2.2.2.2.2.2.2.2.2.2.2.1.1 ⟨_, _, rfl⟩ hc9 k) ?_
    refine Xi.up (pc' := 45) (L' := [some (zr o), some (zr a1), some (zi a2), some (zr l3), some (zr x3), some (zi x7)]) (fun _ _ k => x_istore dX6_choose_43 (by decide) rfl k) ?_
    refine Xi.up (pc' := 47) (fun _ _ k => x_iload dX6_choose_45 rfl k) ?_
    refine Xi.up (pc' := 48) (fun _ _ k => x_iconst dX6_choose_47 (show inR 5 from ⟨by decide, by decide⟩) k) ?_
    refine Xi.br (tgt := 67) (pc' := 51) (x7 ≠ 5) (fun _ _ kt kf => x_icmp_ne dX6_choose_48 rfl kt kf) (fun c => ?_) (fun c => ?_)
    · have h := h.1 c
      refine Xi.up (pc' := 69) (fun _ _ k => x_aload dX6_choose_67 rfl k) ?_
      refine Xi.up (pc' := 71) (fun _ _ k => x_iload dX6_choose_69 rfl k) ?_
      refine Xi.up (pc' := 72) (fun _ _ k => x_iconst dX6_choose_71 (show inR 3 from ⟨by decide, by decide⟩) k) ?_
      refine Xi.br (tgt := 86) (pc' := 75) (x7 ≠ 3) (fun _ _ kt kf => x_icmp_ne dX6_choose_72 rfl kt kf) (fun c => ?_) (fun c => ?_)
      · have h := h.1 c
        refine Xi.up (pc' := 87) (fun _ _ k => x_aload_n dX6_choose_86 rfl rfl k) ?_
        refine Xi.up (pc' := 89) (fun _ _ k => x_aload dX6_choose_87 rfl k) ?_
        refine Xi.up (pc' := 90) (fun _ _ k => x_aload_n dX6_choose_89 rfl rfl k) ?_
        refine Xi.up (pc' := 91) (fun _ _ k => x_iload_n dX6_choose_90 rfl rfl k) ?_
        obtain ⟨x11, M10, hc13, hK12, h⟩ := h
        refine Xi.up (pc' := 94) (st' := [zi x11, zr x3]) (fun _ _ k => x_callVK (ci := 6) (as := [zr x3, zr a1, zi a2]) (st := [zr x3]) hK8 k6_prepareAmong lm6_298 dX6_choose_91 rfl (by decide) (zs8 rfl) h0.1 ⟨_, _, rfl⟩ hc13 k) ?_
        obtain ⟨g14, h⟩ := h
        refine Xi.up (pc' := 97) (L' := [some (zr o), some (zr a1), some (zi a2), some (zr l3), some (zr x3), some (zi x7)]) (fun _ _ k => x_putIK hK12 lf6_291 rfl rfl (Or.inl rfl) dX6_choose_94 g14.1 k) ?_
        have hK15 := KW.sI hK12 x3 3 x11
        exact Xi.up (fun _ _ k => x_less (L' := [some (zr o), some (zr a1), none, some (zr l3), some (zr x3), none]) (⟨rfl, ⟨rfl, ⟨rfl, ⟨rfl, trivial⟩⟩⟩⟩) k) h
      · have h := h.2 c
        refine Xi.up (pc' := 76) (fun _ _ k => x_aload_n dX6_choose_75 rfl rfl k) ?_
        refine Xi.up (pc' := 78) (fun _ _ k => x_aload dX6_choose_76 rfl k) ?_
        refine Xi.up (pc' := 79) (fun _ _ k => x_aload_n dX6_choose_78 rfl rfl k) ?_
        refine Xi.up (pc' := 80) (fun _ _ k => x_iload_n dX6_choose_79 rfl rfl k) ?_
        obtain ⟨x17, M16, hc19, hK18, h⟩ := h
        refine Xi.up (pc' := 83) (st' := [zi x17, zr x3]) (fun _ _ k => x_callVK (ci := 6) (as := [zr x3, zr a1, zi a2]) (st := [zr x3]) hK8 k6_prepareUpTo lm6_294 dX6_choose_80 rfl (by decide) (zs8 rfl) h0.1 ⟨_, _, rfl⟩ hc19 k) ?_
        refine Xi.up (pc' := 94) (fun _ _ k => x_goto dX6_choose_83 rfl k) ?_
        obtain ⟨g20, h⟩ := h
        refine Xi.up (pc' := 97) (L' := [some (zr o), some (zr a1), some (zi a2), some (zr l3), some (zr x3), some (zi x7)]) (fun _ _ k => x_putIK hK18 lf6_291 rfl rfl (Or.inl rfl) dX6_choose_94 g20.1 k) ?_
        have hK21 := KW.sI hK18 x3 3 x17
        exact Xi.up (fun _ _ k => x_less (L' := [some (zr o), some (zr a1), none, some (zr l3), some (zr x3), none]) (⟨rfl, ⟨rfl, ⟨rfl, ⟨rfl, trivial⟩⟩⟩⟩) k) h
    · have h := h.2 c
      refine Xi.up (pc' := 53) (fun _ _ k => x_aload dX6_choose_51 rfl k) ?_
      refine Xi.up (pc' := 54) (fun _ _ k => x_aload_n dX6_choose_53 rfl rfl k) ?_
      refine Xi.up (pc' := 57) (fun _ _ k => x_getRK hK8 lf6_12 rfl dX6_choose_54 h0.1 h0.2.1 k) ?_
      refine Xi.up (pc' := 58) (fun _ _ k => x_iload_n dX6_choose_57 rfl rfl k) ?_
      obtain ⟨x23, M22, hc25, hK24, h⟩ := h
      refine Xi.up (pc' := 61) (st' := [zi x23, zr x3]) (fun _ _ k => x_callVK (ci := 4) (as := [zi a2]) (st := [zr x3]) hK8 k4_partsOf lm6_288 dX6_choose_58 rfl (by decide) (zs8 rfl) h0.2.2.2.2.2.2.2.2.2.2.2.1.1 ⟨_, _, rfl⟩ hc25 k) ?_
      obtain ⟨g26, h⟩ := h
      refine Xi.up (pc' := 64) (L' := [some (zr o), some (zr a1), some (zi a2), some (zr l3), some (zr x3), some (zi x7)]) (fun _ _ k => x_putIK hK24 lf6_291 rfl rfl (Or.inl rfl) dX6_choose_61 g26.1 k) ?_
      have hK27 := KW.sI hK24 x3 3 x23
      refine Xi.up (pc' := 97) (fun _ _ k => x_goto dX6_choose_64 rfl k) ?_
      exact Xi.up (fun _ _ k => x_less (L' := [some (zr o), some (zr a1), none, some (zr l3), some (zr x3), none]) (⟨rfl, ⟨rfl, ⟨rfl, ⟨rfl, trivial⟩⟩⟩⟩) k) h
  · have h := h.2 c
    refine Xi.up (pc' := 31) (fun _ _ k => x_aload_n dX6_choose_30 rfl rfl k) ?_
    obtain ⟨x29, M28, hc31, hK30, h⟩ := h
    refine Xi.up (pc' := 34) (st' := [zi x29]) (fun _ _ k => x_callVK (ci := 6) (as := []) (st := []) hK4 k6_endWay lm6_275 dX6_choose_31 rfl (by decide) (zs8 rfl) h0.1 ⟨_, _, rfl⟩ hc31 k) ?_
    exact Xi.ret ⟨dX6_choose_34, Or.inl rfl⟩ h
set_option maxHeartbeats 4000000 in
set_option maxRecDepth 20000 in
theorem B6_choose_97 {d : Nat} {K M : ZMem} {Q : Int → ZMem → Prop} (o : Nat) (a1 : Nat) (l3 : Nat) (l4 : Nat) (hK : KW K M) (h0 : SearchAt K o) (h1 : WayAt K a1) (h : (PointAt K l4) ∧ ((0 < (mI M l4 3) → (((mI M o 11) ≠ 0 → (Xi (d + 1) q6_choose 146 [some (zr o), some (zr a1), none, some (zr l3), some (zr l4), none] [] M Q)) ∧ (¬ ((mI M o 11) ≠ 0) → (((mI M o 8) ≠ 5 → (Xi (d + 1) q6_choose 146 [some (zr o), some (zr a1), none, some (zr l3), some (zr l4), none] [] M Q)) ∧ (¬ ((mI M o 8) ≠ 5) → (((mI M a1 5) < (mI M o 9) → (Xi (d + 1) q6_choose 146 [some (zr o), some (zr a1), none, some (zr l3), some (zr l4), none] [] M Q)) ∧ (¬ ((mI M a1 5) < (mI M o 9)) → (Ci d q6_endWay [zr o] (sI M o 10 1) (fun x4 M3 => KW K M3 ∧ Q x4 M3))))))))) ∧ (¬ (0 < (mI M l4 3)) → (Ci d q6_endWay [zr o] M (fun x8 M7 => KW K M7 ∧ Q x8 M7))))) : Xi (d + 1) q6_choose 97 [some (zr o), some (zr a1), none, some (zr l3), some (zr l4), none] [] M Q := by
  refine Xi.up (pc' := 99) (fun _ _ k => x_aload dX6_choose_97 rfl k) ?_
  obtain ⟨g1, h⟩ := h
  refine Xi.up (pc' := 102) (L' := [some (zr o), some (zr a1), none, some (zr l3), some (zr l4), none]) (fun _ _ k => x_getIK hK lf6_291 rfl dX6_choose_99 g1.1 k) ?_
  refine Xi.br (tgt := 110) (pc' := 105) (0 < (mI M l4 3)) (fun _ _ kt kf => x_if_gt dX6_choose_102 rfl kt kf) (fun c => ?_) (fun c => ?_)
  · have h := h.1 c
    refine Xi.up (pc' := 111) (fun _ _ k => x_aload_n dX6_choose_110 rfl rfl k) ?_
    refine Xi.up (pc' := 114) (fun _ _ k => x_getIK hK lf6_74 rfl dX6_choose_111 h0.1 k) ?_
    refine Xi.br (tgt := 146) (pc' := 117) ((mI M o 11) ≠ 0) (fun _ _ kt kf => x_if_ne dX6_choose_114 rfl kt kf) (fun c => ?_) (fun c => ?_)
    · have h := h.1 c
      exact h
    · have h := h.2 c
      refine Xi.up (pc' := 118) (fun _ _ k => x_aload_n dX6_choose_117 rfl rfl k) ?_
      refine Xi.up (pc' := 121) (fun _ _ k => x_getIK hK lf6_53 rfl dX6_choose_118 h0.1 k) ?_
      refine Xi.up (pc' := 122) (fun _ _ k => x_iconst dX6_choose_121 (show inR 5 from ⟨by decide, by decide⟩) k) ?_
      refine Xi.br (tgt := 146) (pc' := 125) ((mI M o 8) ≠ 5) (fun _ _ kt kf => x_icmp_ne dX6_choose_122 rfl kt kf) (fun c => ?_) (fun c => ?_)
      · have h := h.1 c
        exact h
      · have h := h.2 c
        refine Xi.up (pc' := 126) (fun _ _ k => x_aload_n dX6_choose_125 rfl rfl k) ?_
        refine Xi.up (pc' := 129) (fun _ _ k => x_getIK hK lf6_173 rfl dX6_choose_126 h1.1 k) ?_
        refine Xi.up (pc' := 130) (fun _ _ k => x_aload_n dX6_choose_129 rfl rfl k) ?_
        refine Xi.up (pc' := 133) (fun _ _ k => x_getIK hK lf6_64 rfl dX6_choose_130 h0.1 k) ?_
        refine Xi.br (tgt := 146) (pc' := 136) ((mI M a1 5) < (mI M o 9)) (fun _ _ kt kf => x_icmp_lt dX6_choose_133 rfl kt kf) (fun c => ?_) (fun c => ?_)
        · have h := h.1 c
          exact h
        · have h := h.2 c
          refine Xi.up (pc' := 137) (fun _ _ k => x_aload_n dX6_choose_136 rfl rfl k) ?_
          refine Xi.up (pc' := 138) (fun _ _ k => x_iconst dX6_choose_137 (show inR 1 from ⟨by decide, by decide⟩) k) ?_
          refine Xi.up (pc' := 141) (fun _ _ k => x_putIK hK lf6_70 rfl rfl (Or.inr (Or.inr rfl)) dX6_choose_138 h0.1 k) ?_
          have hK2 := KW.sI hK o 10 1
          refine Xi.up (pc' := 142) (fun _ _ k => x_aload_n dX6_choose_141 rfl rfl k) ?_
          obtain ⟨x4, M3, hc6, hK5, h⟩ := h
          refine Xi.up (pc' := 145) (st' := [zi x4]) (fun _ _ k => x_callVK (ci := 6) (as := []) (st := []) hK2 k6_endWay lm6_275 dX6_choose_142 rfl (by decide) (zs8 rfl) h0.1 ⟨_, _, rfl⟩ hc6 k) ?_
          exact Xi.ret ⟨dX6_choose_145, Or.inl rfl⟩ h
  · have h := h.2 c
    refine Xi.up (pc' := 106) (fun _ _ k => x_aload_n dX6_choose_105 rfl rfl k) ?_
    obtain ⟨x8, M7, hc10, hK9, h⟩ := h
    refine Xi.up (pc' := 109) (st' := [zi x8]) (fun _ _ k => x_callVK (ci := 6) (as := []) (st := []) hK k6_endWay lm6_275 dX6_choose_106 rfl (by decide) (zs8 rfl) h0.1 ⟨_, _, rfl⟩ hc10 k) ?_
    exact Xi.ret ⟨dX6_choose_109, Or.inl rfl⟩ h
set_option maxHeartbeats 4000000 in
set_option maxRecDepth 20000 in
theorem B6_choose_146 {d : Nat} {K M : ZMem} {Q : Int → ZMem → Prop} (o : Nat) (a1 : Nat) (l3 : Nat) (l4 : Nat) (hK : KW K M) (h0 : SearchAt K o) (h1 : WayAt K a1) (h : (PointsAt K l3) ∧ (((mI M l3 1) < 30 → ((PointAt K l4) ∧ Cv d q8_become [zr (l4 + 1), zr a1] (sI M l4 4 0) (fun M4 => KW K M4 ∧ Ci d q4_priceOf [zr (o + 1), zr (a1 + 1)] M4 (fun x8 M7 => KW K M7 ∧ (inR ((mI (sI M7 l4 5 x8) l3 1) + 1)) ∧ (((mI (sI (sI M7 l4 5 x8) l3 1 ((mI (sI M7 l4 5 x8) l3 1) + 1)) o 11) ≠ 0 → (Ci d q6_endWay [zr o] (sI (sI M7 l4 5 x8) l3 1 ((mI (sI M7 l4 5 x8) l3 1) + 1)) (fun x15 M14 => KW K M14 ∧ Q x15 M14))) ∧ (¬ ((mI (sI (sI M7 l4 5 x8) l3 1 ((mI (sI M7 l4 5 x8) l3 1) + 1)) o 11) ≠ 0) → (Cv d q6_tally [zr o, zi 5, zi 1] (sI (sI M7 l4 5 x8) l3 1 ((mI (sI M7 l4 5 x8) l3 1) + 1)) (fun M18 => KW K M18 ∧ Ci d q6_tell [zr o, zi 4] M18 (fun x22 M21 => KW K M21 ∧ (inR ((mI M18 (o + 20) 1) - x22)) ∧ Cv d q6_tally [zr o, zi 4, zi (if 0 < ((mI M18 (o + 20) 1) - x22) then ((mI M18 (o + 20) 1) - x22) else 0)] M21 (fun M26 => KW K M26 ∧ Ci d q6_endWay [zr o] M26 (fun x30 M29 => KW K M29 ∧ Q x30 M29))))))))))) ∧ (¬ ((mI M l3 1) < 30) → (Ci d q6_finish [zr o, zi 4] M (fun x34 M33 => KW K M33 ∧ Q x34 M33))))) : Xi (d + 1) q6_choose 146 [some (zr o), some (zr a1), none, some (zr l3), some (zr l4), none] [] M Q := by
  refine Xi.up (pc' := 147) (fun _ _ k => x_aload_n dX6_choose_146 rfl rfl k) ?_
  obtain ⟨g1, h⟩ := h
  refine Xi.up (pc' := 150) (L' := [some (zr o), some (zr a1), none, some (zr l3), some (zr l4), none]) (fun _ _ k => x_getIK hK lf6_63 rfl dX6_choose_147 g1.1 k) ?_
  refine Xi.up (pc' := 152) (fun _ _ k => x_bipush dX6_choose_150 (show inR 30 from ⟨by decide, by decide⟩) (by decide) k) ?_
  refine Xi.br (tgt := 161) (pc' := 155) ((mI M l3 1) < 30) (fun _ _ kt kf => x_icmp_lt dX6_choose_152 rfl kt kf) (fun c => ?_) (fun c => ?_)
  · have h := h.1 c
    refine Xi.up (pc' := 163) (fun _ _ k => x_aload dX6_choose_161 rfl k) ?_
    refine Xi.up (pc' := 164) (fun _ _ k => x_iconst dX6_choose_163 (show inR 0 from ⟨by decide, by decide⟩) k) ?_
    obtain ⟨g2, h⟩ := h
    refine Xi.up (pc' := 167) (L' := [some (zr o), some (zr a1), none, some (zr l3), some (zr l4), none]) (fun _ _ k => x_putIK hK lf6_167 rfl rfl (Or.inl rfl) dX6_choose_164 g2.1 k) ?_
    have hK3 := KW.sI hK l4 4 0
    refine Xi.up (pc' := 169) (fun _ _ k => x_aload dX6_choose_167 rfl k) ?_
    refine Xi.up (pc' := 172) (fun _ _ k => x_getRK hK3 lf6_147 rfl dX6_choose_169 g2.1 g2.2.1 k) ?_
    refine Xi.up (pc' := 173) (fun _ _ k => x_aload_n dX6_choose_172 rfl rfl k) ?_
    obtain ⟨M4, hc6, hK5, h⟩ := h
    refine Xi.up (pc' := 176) (st' := []) (fun _ _ k => x_callVK (ci := 8) (as := [zr a1]) (st := []) hK3 k8_become lm6_93 dX6_choose_173 rfl (by decide) (zs8 rfl) g2.2.2.2.2.1 ⟨_, _, rfl⟩ hc6 k) ?_
    refine Xi.up (pc' := 178) (fun _ _ k => x_aload dX6_choose_176 rfl k) ?_
    refine Xi.up (pc' := 179) (fun _ _ k => x_aload_n dX6_choose_178 rfl rfl k) ?_
    refine Xi.up (pc' := 182) (fun _ _ k => x_getRK hK5 lf6_12 rfl dX6_choose_179 h0.1 h0.2.1 k) ?_
    refine Xi.up (pc' := 183) (fun _ _ k => x_aload_n dX6_choose_182 rfl rfl k) ?_
    refine Xi.up (pc' := 186) (fun _ _ k => x_getRK hK5 lf6_234 rfl dX6_choose_183 h1.1 h1.2.1 k) ?_
    obtain ⟨x8, M7, hc10, hK9, h⟩ := h
    refine Xi.up (pc' := 189) (st' := [zi x8, zr l4]) (fun _ _ k => x_callVK (ci := 4) (as := [zr (a1 + 1)]) (st := [zr l4]) hK5 k4_priceOf lm6_237 dX6_choose_186 rfl (by decide) (zs8 rfl) h0.2.2.2.2.2.2.2.2.2.2.2.1.1 ⟨_, _, rfl⟩ hc10 k) ?_
    refine Xi.up (pc' := 192) (fun _ _ k => x_putIK hK9 lf6_301 rfl rfl (Or.inl rfl) dX6_choose_189 g2.1 k) ?_
    have hK11 := KW.sI hK9 l4 5 x8
    refine Xi.up (pc' := 193) (fun _ _ k => x_aload_n dX6_choose_192 rfl rfl k) ?_
    refine Xi.up (pc' := 194) (fun _ _ k => x_dupR dX6_choose_193 k) ?_
    refine Xi.up (pc' := 197) (fun _ _ k => x_getIK hK11 lf6_63 rfl dX6_choose_194 g1.1 k) ?_
    refine Xi.up (pc' := 198) (fun _ _ k => x_iconst dX6_choose_197 (show inR 1 from ⟨by decide, by decide⟩) k) ?_
    obtain ⟨g12, h⟩ := h
    refine Xi.up (pc' := 199) (fun _ _ k => x_iadd dX6_choose_198 g12 k) ?_
    refine Xi.up (pc' := 202) (fun _ _ k => x_putIK hK11 lf6_63 rfl rfl (Or.inl rfl) dX6_choose_199 g1.1 k) ?_
    have hK13 := KW.sI hK11 l3 1 ((mI (sI M7 l4 5 x8) l3 1) + 1)
    refine Xi.up (pc' := 203) (fun _ _ k => x_aload_n dX6_choose_202 rfl rfl k) ?_
    refine Xi.up (pc' := 206) (fun _ _ k => x_getIK hK13 lf6_74 rfl dX6_choose_203 h0.1 k) ?_
    refine Xi.br (tgt := 237) (pc' := 209) ((mI (sI (sI M7 l4 5 x8) l3 1 ((mI (sI M7 l4 5 x8) l3 1) + 1)) o 11) ≠ 0) (fun _ _ kt kf => x_if_ne dX6_choose_206 rfl kt kf) (fun c => ?_) (fun c => ?_)
    · have h := h.1 c
      refine Xi.up (pc' := 238) (fun _ _ k => x_aload_n dX6_choose_237 rfl rfl k) ?_
      obtain ⟨x15, M14, hc17, hK16, h⟩ := h
      refine Xi.up (pc' := 241) (st' := [zi x15]) (fun _ _ k => x_callVK (ci := 6) (as := []) (st := []) hK13 k6_endWay lm6_275 dX6_choose_238 rfl (by decide) (zs8 rfl) h0.1 ⟨_, _, rfl⟩ hc17 k) ?_
      exact Xi.ret ⟨dX6_choose_241, Or.inl rfl⟩ h
    · have h := h.2 c
      refine Xi.up (pc' := 210) (fun _ _ k => x_aload_n dX6_choose_209 rfl rfl k) ?_
      refine Xi.up (pc' := 211) (fun _ _ k => x_iconst dX6_choose_210 (show inR 5 from ⟨by decide, by decide⟩) k) ?_
      refine Xi.up (pc' := 212) (fun _ _ k => x_iconst dX6_choose_211 (show inR 1 from ⟨by decide, by decide⟩) k) ?_
      obtain ⟨M18, hc20, hK19, h⟩ := h
      refine Xi.up (pc' := 215) (st' := []) (fun _ _ k => x_callVK (ci := 6) (as := [zi 5, zi 1]) (st := []) hK13 k6_tally lm6_133 dX6_choose_212 rfl (by decide) (zs8 rfl) h0.1 ⟨_, _, rfl⟩ hc20 k) ?_
      refine Xi.up (pc' := 216) (fun _ _ k => x_aload_n dX6_choose_215 rfl rfl k) ?_
      refine Xi.up (pc' := 217) (fun _ _ k => x_iconst dX6_choose_216 (show inR 4 from ⟨by decide, by decide⟩) k) ?_
      refine Xi.up (pc' := 218) (fun _ _ k => x_iconst dX6_choose_217 (show inR 0 from ⟨by decide, by decide⟩) k) ?_
      refine Xi.up (pc' := 219) (fun _ _ k => x_aload_n dX6_choose_218 rfl rfl k) ?_
      refine Xi.up (pc' := 222) (fun _ _ k => x_getRK hK19 lf6_28 rfl dX6_choose_219 h0.1 h0.2.2.2.1 k) ?_
      refine Xi.up (pc' := 225) (fun _ _ k => x_getIK hK19 lf6_63 rfl dX6_choose_222 h0.2.2.2.2.2.2.2.2.2.2.2.2.2.1.1 k) ?_
      refine Xi.up (pc' := 226) (fun _ _ k => x_aload_n dX6_choose_225 rfl rfl k) ?_
      refine Xi.up (pc' := 227) (fun _ _ k => x_iconst dX6_choose_226 (show inR 4 from ⟨by decide, by decide⟩) k) ?_
      obtain ⟨x22, M21, hc24, hK23, h⟩ := h
      refine Xi.up (pc' := 230) (st' := [zi x22, zi (mI M18 (o + 20) 1), zi 0, zi 4, zr o]) (fun _ _ k => x_callVK (ci := 6) (as := [zi 4]) (st := [zi (mI M18 (o + 20) 1), zi 0, zi 4, zr o]) hK19 k6_tell lm6_241 dX6_choose_227 rfl (by decide) (zs8 rfl) h0.1 ⟨_, _, rfl⟩ hc24 k) ?_
      obtain ⟨g25, h⟩ := h
      refine Xi.up (pc' := 231) (fun _ _ k => x_isub dX6_choose_230 g25 k) ?_
      refine Xi.up (pc' := 234) (fun _ _ k => x_max lx6_304 dX6_choose_231 (zs8 rfl) k) ?_
      obtain ⟨M26, hc28, hK27, h⟩ := h
      refine Xi.up (pc' := 237) (st' := []) (fun _ _ k => x_callVK (ci := 6) (as := [zi 4, zi (if 0 < ((mI M18 (o + 20) 1) - x22) then ((mI M18 (o + 20) 1) - x22) else 0)]) (st := []) hK23 k6_tally lm6_133 dX6_choose_234 rfl (by decide) (zs8 rfl) h0.1 ⟨_, _, rfl⟩ hc28 k) ?_
      refine Xi.up (pc' := 238) (fun _ _ k => x_aload_n dX6_choose_237 rfl rfl k) ?_
      obtain ⟨x30, M29, hc32, hK31, h⟩ := h
      refine Xi.up (pc' := 241) (st' := [zi x30]) (fun _ _ k => x_callVK (ci := 6) (as := []) (st := []) hK27 k6_endWay lm6_275 dX6_choose_238 rfl (by decide) (zs8 rfl) h0.1 ⟨_, _, rfl⟩ hc32 k) ?_
      exact Xi.ret ⟨dX6_choose_241, Or.inl rfl⟩ h
  · have h := h.2 c
    refine Xi.up (pc' := 156) (fun _ _ k => x_aload_n dX6_choose_155 rfl rfl k) ?_
    refine Xi.up (pc' := 157) (fun _ _ k => x_iconst dX6_choose_156 (show inR 4 from ⟨by decide, by decide⟩) k) ?_
    obtain ⟨x34, M33, hc36, hK35, h⟩ := h
    refine Xi.up (pc' := 160) (st' := [zi x34]) (fun _ _ k => x_callVK (ci := 6) (as := [zi 4]) (st := []) hK k6_finish lm6_164 dX6_choose_157 rfl (by decide) (zs8 rfl) h0.1 ⟨_, _, rfl⟩ hc36 k) ?_
    exact Xi.ret ⟨dX6_choose_160, Or.inl rfl⟩ h
set_option maxHeartbeats 4000000 in
set_option maxRecDepth 20000 in
theorem B6_prepareUpTo {d : Nat} {K M : ZMem} {Q : Int → ZMem → Prop} (o : Nat) (a1 : Nat) (a2 : Nat) (a3 : Int) (hK : KW K M) (h0 : SearchAt K o) (h1 : PointAt K a1) (h2 : WayAt K a2) (h : Ci d q4_formulaOf [zr (o + 1), zi a3] M (fun x2 M1 => KW K M1 ∧ Ci d q1_worth [zr (o + 10), zi x2, zr (a2 + 1)] M1 (fun x6 M5 => KW K M5 ∧ (inR (x2 + 1)) ∧ Ci d q1_worth [zr (o + 10), zi (x2 + 1), zr (a2 + 1)] M5 (fun x11 M10 => KW K M10 ∧ ((x6 = 999999 → (Q 0 M10)) ∧ (¬ (x6 = 999999) → ((x11 ≠ 999999 → ((inR (x11 - x6)) ∧ (inR ((x11 - x6) + 1)) ∧ Q ((x11 - x6) + 1) (sI M10 a1 2 x6))) ∧ (¬ (x11 ≠ 999999) → (Q 0 M10))))))))) : Ci (d + 1) q6_prepareUpTo [zr o, zr a1, zr a2, zi a3] M Q := by
  refine Ci.of rfl rfl (Nat.le_of_ble_eq_true rfl) (fun w hw x e => by subst e; simp at hw) (L := [some (zr o), some (zr a1), some (zr a2), some (zi a3), none, none, none]) rfl ?_
  refine Xi.up (pc' := 1) (fun _ _ k => x_aload_n dX6_prepareUpTo_0 rfl rfl k) ?_
  refine Xi.up (pc' := 4) (fun _ _ k => x_getRK hK lf6_12 rfl dX6_prepareUpTo_1 h0.1 h0.2.1 k) ?_
  refine Xi.up (pc' := 5) (fun _ _ k => x_iload_n dX6_prepareUpTo_4 rfl rfl k) ?_
  obtain ⟨x2, M1, hc4, hK3, h⟩ := h
  refine Xi.up (pc' := 8) (st' := [zi x2]) (fun _ _ k => x_callVK (ci := 4) (as := [zi a3]) (st := []) hK k4_formulaOf lm6_265 dX6_prepareUpTo_5 rfl (by decide) (zs8 rfl) h0.2.2.2.2.2.2.2.2.2.2.2.1.1 ⟨_, _, rfl⟩ hc4 k) ?_
  refine Xi.up (pc' := 10) (L' := [some (zr o), some (zr a1), some (zr a2), some (zi a3), some (zi x2), none, none]) (fun _ _ k => x_istore dX6_prepareUpTo_8 (by decide) rfl k) ?_
  refine Xi.up (pc' := 11) (fun _ _ k => x_aload_n dX6_prepareUpTo_10 rfl rfl k) ?_
  refine Xi.up (pc' := 14) (fun _ _ k => x_getRK hK3 lf6_12 rfl dX6_prepareUpTo_11 h0.1 h0.2.1 k) ?_
  refine Xi.up (pc' := 17) (fun _ _ k => x_getRK hK3 lf6_261 rfl dX6_prepareUpTo_14 h0.2.2.2.2.2.2.2.2.2.2.2.1.1 h0.2.2.2.2.2.2.2.2.2.2.2.1.2.2.2.2.2.2.2.2.2.1 k) ?_
  refine Xi.up (pc' := 19) (fun _ _ k => x_iload dX6_prepareUpTo_17 rfl k) ?_
  refine Xi.up (pc' := 20) (fun _ _ k => x_aload_n dX6_prepareUpTo_19 rfl rfl k) ?_
  refine Xi.up (pc' := 23) (fun _ _ k => x_getRK hK3 lf6_234 rfl dX6_prepareUpTo_20 h2.1 h2.2.1 k) ?_
  obtain ⟨x6, M5, hc8, hK7, h⟩ := h
  refine Xi.up (pc' := 26) (st' := [zi x6]) (fun _ _ k => x_callVK (ci := 1) (as := [zi x2, zr (a2 + 1)]) (st := []) hK3 k1_worth lm6_268 dX6_prepareUpTo_23 rfl (by decide) (zs8 rfl) h0.2.2.2.2.2.2.2.2.2.2.2.1.2.2.2.2.2.2.2.2.2.2.2.2.2.2.2.2.2.2.2.1.1 ⟨_, _, rfl⟩ hc8 k) ?_
  refine Xi.up (pc' := 28) (L' := [some (zr o), some (zr a1), some (zr a2), some (zi a3), some (zi x2), some (zi x6), none]) (fun _ _ k => x_istore dX6_prepareUpTo_26 (by decide) rfl k) ?_
  refine Xi.up (pc' := 29) (fun _ _ k => x_aload_n dX6_prepareUpTo_28 rfl rfl k) ?_
  refine Xi.up (pc' := 32) (fun _ _ k => x_getRK hK7 lf6_12 rfl dX6_prepareUpTo_29 h0.1 h0.2.1 k) ?_
  refine Xi.up (pc' := 35) (fun _ _ k => x_getRK hK7 lf6_261 rfl dX6_prepareUpTo_32 h0.2.2.2.2.2.2.2.2.2.2.2.1.1 h0.2.2.2.2.2.2.2.2.2.2.2.1.2.2.2.2.2.2.2.2.2.1 k) ?_
  refine Xi.up (pc' := 37) (fun _ _ k => x_iload dX6_prepareUpTo_35 rfl k) ?_
  refine Xi.up (pc' := 38) (fun _ _ k => x_iconst dX6_prepareUpTo_37 (show inR 1 from ⟨by decide, by decide⟩) k) ?_
  obtain ⟨g9, h⟩ := h
  refine Xi.up (pc' := 39) (fun _ _ k => x_iadd dX6_prepareUpTo_38 g9 k) ?_
  refine Xi.up (pc' := 40) (fun _ _ k => x_aload_n dX6_prepareUpTo_39 rfl rfl k) ?_
  refine Xi.up (pc' := 43) (fun _ _ k => x_getRK hK7 lf6_234 rfl dX6_prepareUpTo_40 h2.1 h2.2.1 k) ?_
  obtain ⟨x11, M10, hc13, hK12, h⟩ := h
  refine Xi.up (pc' := 46) (st' := [zi x11]) (fun _ _ k => x_callVK (ci := 1) (as := [zi (x2 + 1), zr (a2 + 1)]) (st := []) hK7 k1_worth lm6_268 dX6_prepareUpTo_43 rfl (by decide) (zs8 rfl) h0.2.2.2.2.2.2.2.2.2.2.2.1.2.2.2.2.2.2.2.2.2.2.2.2.2.2.2.2.2.2.2.1.1 ⟨_, _, rfl⟩ hc13 k) ?_
  refine Xi.up (pc' := 48) (L' := [some (zr o), some (zr a1), some (zr a2), some (zi a3), some (zi x2), some (zi x6), some (zi x11)]) (fun _ _ k => x_istore dX6_prepareUpTo_46 (by decide) rfl k) ?_
  refine Xi.up (pc' := 50) (fun _ _ k => x_iload dX6_prepareUpTo_48 rfl k) ?_
  refine Xi.up (pc' := 53) (fun _ _ k => x_ldcw li6_274 dX6_prepareUpTo_50 (show inR 999999 from ⟨by decide, by decide⟩) rfl k) ?_
  refine Xi.br (tgt := 64) (pc' := 56) (x6 = 999999) (fun _ _ kt kf => x_icmp_eq dX6_prepareUpTo_53 rfl kt kf) (fun c => ?_) (fun c => ?_)
  · have h := h.1 c
    refine Xi.up (pc' := 65) (fun _ _ k => x_iconst dX6_prepareUpTo_64 (show inR 0 from ⟨by decide, by decide⟩) k) ?_
    exact Xi.ret ⟨dX6_prepareUpTo_65, Or.inl rfl⟩ h
  · have h := h.2 c
    refine Xi.up (pc' := 58) (fun _ _ k => x_iload dX6_prepareUpTo_56 rfl k) ?_
    refine Xi.up (pc' := 61) (fun _ _ k => x_ldcw li6_274 dX6_prepareUpTo_58 (show inR 999999 from ⟨by decide, by decide⟩) rfl k) ?_
    refine Xi.br (tgt := 66) (pc' := 64) (x11 ≠ 999999) (fun _ _ kt kf => x_icmp_ne dX6_prepareUpTo_61 rfl kt kf) (fun c => ?_) (fun c => ?_)
    · have h := h.1 c
      refine Xi.up (pc' := 67) (fun _ _ k => x_aload_n dX6_prepareUpTo_66 rfl rfl k) ?_
      refine Xi.up (pc' := 69) (fun _ _ k => x_iload dX6_prepareUpTo_67 rfl k) ?_
      refine Xi.up (pc' := 72) (fun _ _ k => x_putIK hK12 lf6_193 rfl rfl (Or.inl rfl) dX6_prepareUpTo_69 h1.1 k) ?_
      have hK14 := KW.sI hK12 a1 2 x6
      refine Xi.up (pc' := 74) (fun _ _ k => x_iload dX6_prepareUpTo_72 rfl k) ?_
      refine Xi.up (pc' := 76) (fun _ _ k => x_iload dX6_prepareUpTo_74 rfl k) ?_
      obtain ⟨g15, h⟩ := h
      refine Xi.up (pc' := 77) (fun _ _ k => x_isub dX6_prepareUpTo_76 g15 k) ?_
      refine Xi.up (pc' := 78) (fun _ _ k => x_iconst dX6_prepareUpTo_77 (show inR 1 from ⟨by decide, by decide⟩) k) ?_
      obtain ⟨g16, h⟩ := h
      refine Xi.up (pc' := 79) (fun _ _ k => x_iadd dX6_prepareUpTo_78 g16 k) ?_
      exact Xi.ret ⟨dX6_prepareUpTo_79, Or.inl rfl⟩ h
    · have h := h.2 c
      refine Xi.up (pc' := 65) (fun _ _ k => x_iconst dX6_prepareUpTo_64 (show inR 0 from ⟨by decide, by decide⟩) k) ?_
      exact Xi.ret ⟨dX6_prepareUpTo_65, Or.inl rfl⟩ h
set_option maxHeartbeats 4000000 in
set_option maxRecDepth 20000 in
theorem B6_prepareAmong {d : Nat} {K M : ZMem} {Q : Int → ZMem → Prop} (o : Nat) (a1 : Nat) (a2 : Nat) (a3 : Int) (hK : KW K M) (h0 : SearchAt K o) (h1 : PointAt K a1) (h2 : WayAt K a2) (h : Ci d q4_formulaOf [zr (o + 1), zi a3] M (fun x2 M1 => KW K M1 ∧ (inR (a3 + 1)) ∧ Ci d q4_formulaOf [zr (o + 1), zi (a3 + 1)] M1 (fun x7 M6 => KW K M6 ∧ (inR (x7 - x2)) ∧ Xi (d + 1) q6_prepareAmong 28 [some (zr o), some (zr a1), some (zr a2), none, some (zi x2), some (zi (x7 - x2)), some (zi 0), none] [] M6 Q))) : Ci (d + 1) q6_prepareAmong [zr o, zr a1, zr a2, zi a3] M Q := by
  refine Ci.of rfl rfl (Nat.le_of_ble_eq_true rfl) (fun w hw x e => by subst e; simp at hw) (L := [some (zr o), some (zr a1), some (zr a2), some (zi a3), none, none, none, none]) rfl ?_
  refine Xi.up (pc' := 1) (fun _ _ k => x_aload_n dX6_prepareAmong_0 rfl rfl k) ?_
  refine Xi.up (pc' := 4) (fun _ _ k => x_getRK hK lf6_12 rfl dX6_prepareAmong_1 h0.1 h0.2.1 k) ?_
  refine Xi.up (pc' := 5) (fun _ _ k => x_iload_n dX6_prepareAmong_4 rfl rfl k) ?_
  obtain ⟨x2, M1, hc4, hK3, h⟩ := h
  refine Xi.up (pc' := 8) (st' := [zi x2]) (fun _ _ k => x_callVK (ci := 4) (as := [zi a3]) (st := []) hK k4_formulaOf lm6_265 dX6_prepareAmong_5 rfl (by decide) (zs8 rfl) h0.2.2.2.2.2.2.2.2.2.2.2.1.1 ⟨_, _, rfl⟩ hc4 k) ?_
  refine Xi.up (pc' := 10) (L' := [some (zr o), some (zr a1), some (zr a2), some (zi a3), some (zi x2), none, none, none]) (fun _ _ k => x_istore dX6_prepareAmong_8 (by decide) rfl k) ?_
  refine Xi.up (pc' := 11) (fun _ _ k => x_aload_n dX6_prepareAmong_10 rfl rfl k) ?_
  refine Xi.up (pc' := 14) (fun _ _ k => x_getRK hK3 lf6_12 rfl dX6_prepareAmong_11 h0.1 h0.2.1 k) ?_
  refine Xi.up (pc' := 15) (fun _ _ k => x_iload_n dX6_prepareAmong_14 rfl rfl k) ?_
  refine Xi.up (pc' := 16) (fun _ _ k => x_iconst dX6_prepareAmong_15 (show inR 1 from ⟨by decide, by decide⟩) k) ?_
  obtain ⟨g5, h⟩ := h
  refine Xi.up (pc' := 17) (fun _ _ k => x_iadd dX6_prepareAmong_16 g5 k) ?_
  obtain ⟨x7, M6, hc9, hK8, h⟩ := h
  refine Xi.up (pc' := 20) (st' := [zi x7]) (fun _ _ k => x_callVK (ci := 4) (as := [zi (a3 + 1)]) (st := []) hK3 k4_formulaOf lm6_265 dX6_prepareAmong_17 rfl (by decide) (zs8 rfl) h0.2.2.2.2.2.2.2.2.2.2.2.1.1 ⟨_, _, rfl⟩ hc9 k) ?_
  refine Xi.up (pc' := 22) (fun _ _ k => x_iload dX6_prepareAmong_20 rfl k) ?_
  obtain ⟨g10, h⟩ := h
  refine Xi.up (pc' := 23) (fun _ _ k => x_isub dX6_prepareAmong_22 g10 k) ?_
  refine Xi.up (pc' := 25) (L' := [some (zr o), some (zr a1), some (zr a2), some (zi a3), some (zi x2), some (zi (x7 - x2)), none, none]) (fun _ _ k => x_istore dX6_prepareAmong_23 (by decide) rfl k) ?_
  refine Xi.up (pc' := 26) (fun _ _ k => x_iconst dX6_prepareAmong_25 (show inR 0 from ⟨by decide, by decide⟩) k) ?_
  refine Xi.up (pc' := 28) (L' := [some (zr o), some (zr a1), some (zr a2), some (zi a3), some (zi x2), some (zi (x7 - x2)), some (zi 0), none]) (fun _ _ k => x_istore dX6_prepareAmong_26 (by decide) rfl k) ?_
  exact Xi.up (fun _ _ k => x_less (L' := [some (zr o), some (zr a1), some (zr a2), none, some (zi x2), some (zi (x7 - x2)), some (zi 0), none]) (⟨rfl, ⟨rfl, ⟨rfl, ⟨rfl, ⟨rfl, ⟨rfl, trivial⟩⟩⟩⟩⟩⟩) k) h
set_option maxHeartbeats 4000000 in
set_option maxRecDepth 20000 in
theorem B6_prepareAmong_28 {d : Nat} {K M : ZMem} {Q : Int → ZMem → Prop} (o : Nat) (a1 : Nat) (a2 : Nat) (l4 : Int) (l5 : Int) (l6 : Int) (hK : KW K M) (h0 : SearchAt K o) (h1 : PointAt K a1) (h2 : WayAt K a2) (h : ((l5 ≤ l6 → (Q l5 M)) ∧ (¬ (l5 ≤ l6) → ((6 ≤ l6 → (Q l5 M)) ∧ (¬ (6 ≤ l6) → ((inR (l4 + l6)) ∧ Ci d q1_worth [zr (o + 10), zi (l4 + l6), zr (a2 + 1)] M (fun x3 M2 => KW K M2 ∧ ((x3 ≠ 999999 → ((0 ≤ l6) ∧ (l6 < 6) ∧ (inR (l6 + 1)) ∧ Xi (d + 1) q6_prepareAmong 28 [some (zr o), some (zr a1), some (zr a2), none, some (zi l4), some (zi l5), some (zi (l6 + 1)), none] [] (sI M2 (a1 + 5) l6.toNat x3) Q)) ∧ (¬ (x3 ≠ 999999) → (Q 0 M2)))))))))) : Xi (d + 1) q6_prepareAmong 28 [some (zr o), some (zr a1), some (zr a2), none, some (zi l4), some (zi l5), some (zi l6), none] [] M Q := by
  refine Xi.up (pc' := 30) (fun _ _ k => x_iload dX6_prepareAmong_28 rfl k) ?_
  refine Xi.up (pc' := 32) (fun _ _ k => x_iload dX6_prepareAmong_30 rfl k) ?_
  refine Xi.br (tgt := 88) (pc' := 35) (l5 ≤ l6) (fun _ _ kt kf => x_icmp_ge dX6_prepareAmong_32 rfl kt kf) (fun c => ?_) (fun c => ?_)
  · have h := h.1 c
    refine Xi.up (pc' := 90) (fun _ _ k => x_iload dX6_prepareAmong_88 rfl k) ?_
    exact Xi.ret ⟨dX6_prepareAmong_90, Or.inl rfl⟩ h
  · have h := h.2 c
    refine Xi.up (pc' := 37) (fun _ _ k => x_iload dX6_prepareAmong_35 rfl k) ?_
    refine Xi.up (pc' := 39) (fun _ _ k => x_bipush dX6_prepareAmong_37 (show inR 6 from ⟨by decide, by decide⟩) (by decide) k) ?_
    refine Xi.br (tgt := 88) (pc' := 42) (6 ≤ l6) (fun _ _ kt kf => x_icmp_ge dX6_prepareAmong_39 rfl kt kf) (fun c => ?_) (fun c => ?_)
    · have h := h.1 c
      refine Xi.up (pc' := 90) (fun _ _ k => x_iload dX6_prepareAmong_88 rfl k) ?_
      exact Xi.ret ⟨dX6_prepareAmong_90, Or.inl rfl⟩ h
    · have h := h.2 c
      refine Xi.up (pc' := 43) (fun _ _ k => x_aload_n dX6_prepareAmong_42 rfl rfl k) ?_
      refine Xi.up (pc' := 46) (fun _ _ k => x_getRK hK lf6_12 rfl dX6_prepareAmong_43 h0.1 h0.2.1 k) ?_
      refine Xi.up (pc' := 49) (fun _ _ k => x_getRK hK lf6_261 rfl dX6_prepareAmong_46 h0.2.2.2.2.2.2.2.2.2.2.2.1.1 h0.2.2.2.2.2.2.2.2.2.2.2.1.2.2.2.2.2.2.2.2.2.1 k) ?_
      refine Xi.up (pc' := 51) (fun _ _ k => x_iload dX6_prepareAmong_49 rfl k) ?_
      refine Xi.up (pc' := 53) (fun _ _ k => x_iload dX6_prepareAmong_51 rfl k) ?_
      obtain ⟨g1, h⟩ := h
      refine Xi.up (pc' := 54) (fun _ _ k => x_iadd dX6_prepareAmong_53 g1 k) ?_
      refine Xi.up (pc' := 55) (fun _ _ k => x_aload_n dX6_prepareAmong_54 rfl rfl k) ?_
      refine Xi.up (pc' := 58) (fun _ _ k => x_getRK hK lf6_234 rfl dX6_prepareAmong_55 h2.1 h2.2.1 k) ?_
      obtain ⟨x3, M2, hc5, hK4, h⟩ := h
      refine Xi.up (pc' := 61) (st' := [zi x3]) (fun _ _ k => x_callVK (ci := 1) (as := [zi (l4 + l6), zr (a2 + 1)]) (st := []) hK k1_worth lm6_268 dX6_prepareAmong_58 rfl (by decide) (zs8 rfl) h0.2.2.2.2.2.2.2.2.2.2.2.1.2.2.2.2.2.2.2.2.2.2.2.2.2.2.2.2.2.2.2.1.1 ⟨_, _, rfl⟩ hc5 k) ?_
      refine Xi.up (pc' := 63) (L' := [some (zr o), some (zr a1), some (zr a2), none, some (zi l4), some (zi l5), some (zi l6), some (zi x3)]) (fun _ _ k => x_istore dX6_prepareAmong_61 (by decide) rfl k) ?_
      refine Xi.up (pc' := 65) (fun _ _ k => x_iload dX6_prepareAmong_63 rfl k) ?_
      refine Xi.up (pc' := 68) (fun _ _ k => x_ldcw li6_274 dX6_prepareAmong_65 (show inR 999999 from ⟨by decide, by decide⟩) rfl k) ?_
      refine Xi.br (tgt := 73) (pc' := 71) (x3 ≠ 999999) (fun _ _ kt kf => x_icmp_ne dX6_prepareAmong_68 rfl kt kf) (fun c => ?_) (fun c => ?_)
      · have h := h.1 c
        refine Xi.up (pc' := 74) (fun _ _ k => x_aload_n dX6_prepareAmong_73 rfl rfl k) ?_
        refine Xi.up (pc' := 77) (fun _ _ k => x_getRK hK4 lf6_309 rfl dX6_prepareAmong_74 h1.1 h1.2.2.1 k) ?_
        refine Xi.up (pc' := 79) (fun _ _ k => x_iload dX6_prepareAmong_77 rfl k) ?_
        refine Xi.up (pc' := 81) (fun _ _ k => x_iload dX6_prepareAmong_79 rfl k) ?_
        obtain ⟨g6, h⟩ := h
        obtain ⟨g7, h⟩ := h
        refine Xi.up (pc' := 82) (fun _ _ k => x_iastoreK hK4 dX6_prepareAmong_81 h1.2.2.2.1 g6 g7 k) ?_
        have hK8 := KW.sI hK4 (a1 + 5) l6.toNat x3
        obtain ⟨g9, h⟩ := h
        refine Xi.up (pc' := 85) (L' := [some (zr o), some (zr a1), some (zr a2), none, some (zi l4), some (zi l5), some (zi (l6 + 1)), some (zi x3)]) (fun _ _ k => x_iinc dX6_prepareAmong_82 rfl g9 (by decide) rfl k) ?_
        refine Xi.up (pc' := 28) (fun _ _ k => x_goto dX6_prepareAmong_85 rfl k) ?_
        exact Xi.up (fun _ _ k => x_less (L' := [some (zr o), some (zr a1), some (zr a2), none, some (zi l4), some (zi l5), some (zi (l6 + 1)), none]) (⟨rfl, ⟨rfl, ⟨rfl, ⟨rfl, ⟨rfl, ⟨rfl, trivial⟩⟩⟩⟩⟩⟩) k) h
      · have h := h.2 c
        refine Xi.up (pc' := 72) (fun _ _ k => x_iconst dX6_prepareAmong_71 (show inR 0 from ⟨by decide, by decide⟩) k) ?_
        exact Xi.ret ⟨dX6_prepareAmong_72, Or.inl rfl⟩ h
set_option maxHeartbeats 4000000 in
set_option maxRecDepth 20000 in
theorem B9_feed {d : Nat} {K M : ZMem} {Q : Int → ZMem → Prop} (a1 : Int) (hK : KW K M) (h0 : TopAt K 2) (h : ((a1 < 1 → (Q (-2001) M)) ∧ (¬ (a1 < 1) → ((a1 ≤ 255 → (Ci d q7_add [zr 3, zi a1] M (fun x2 M1 => KW K M1 ∧ ((x2 = 0 → (Q (-2002) M1)) ∧ (¬ (x2 = 0) → (Q (mI M1 3 1) M1)))))) ∧ (¬ (a1 ≤ 255) → (Q (-2001) M)))))) : Ci (d + 1) q9_feed [zr 2, zi a1] M Q := by
  refine Ci.of rfl rfl (Nat.le_of_ble_eq_true rfl) (fun w hw x e => by subst e; simp at hw) (L := [some (zr 2), some (zi a1)]) rfl ?_
  refine Xi.up (pc' := 1) (fun _ _ k => x_iload_n dX9_feed_0 rfl rfl k) ?_
  refine Xi.up (pc' := 2) (fun _ _ k => x_iconst dX9_feed_1 (show inR 1 from ⟨by decide, by decide⟩) k) ?_
  refine Xi.br (tgt := 12) (pc' := 5) (a1 < 1) (fun _ _ kt kf => x_icmp_lt dX9_feed_2 rfl kt kf) (fun c => ?_) (fun c => ?_)
  · have h := h.1 c
    refine Xi.up (pc' := 15) (fun _ _ k => x_sipush dX9_feed_12 (show inR (-2001) from ⟨by decide, by decide⟩) (by decide) k) ?_
    exact Xi.ret ⟨dX9_feed_15, Or.inl rfl⟩ h
  · have h := h.2 c
    refine Xi.up (pc' := 6) (fun _ _ k => x_iload_n dX9_feed_5 rfl rfl k) ?_
    refine Xi.up (pc' := 9) (fun _ _ k => x_sipush dX9_feed_6 (show inR 255 from ⟨by decide, by decide⟩) (by decide) k) ?_
    refine Xi.br (tgt := 16) (pc' := 12) (a1 ≤ 255) (fun _ _ kt kf => x_icmp_le dX9_feed_9 rfl kt kf) (fun c => ?_) (fun c => ?_)
    · have h := h.1 c
      refine Xi.up (pc' := 17) (fun _ _ k => x_aload_n dX9_feed_16 rfl rfl k) ?_
      refine Xi.up (pc' := 20) (fun _ _ k => x_getRK hK lf9_10 rfl dX9_feed_17 h0.1 h0.2.1 k) ?_
      refine Xi.up (pc' := 21) (fun _ _ k => x_iload_n dX9_feed_20 rfl rfl k) ?_
      obtain ⟨x2, M1, hc4, hK3, h⟩ := h
      refine Xi.up (pc' := 24) (st' := [zi x2]) (fun _ _ k => x_callVK (ci := 7) (as := [zi a1]) (st := []) hK k7_add lm9_43 dX9_feed_21 rfl (by decide) (zs8 rfl) h0.2.2.2.2.2.2.1.1 ⟨_, _, rfl⟩ hc4 k) ?_
      refine Xi.br (tgt := 37) (pc' := 27) (x2 = 0) (fun _ _ kt kf => x_if_eq dX9_feed_24 rfl kt kf) (fun c => ?_) (fun c => ?_)
      · have h := h.1 c
        refine Xi.up (pc' := 40) (fun _ _ k => x_sipush dX9_feed_37 (show inR (-2002) from ⟨by decide, by decide⟩) (by decide) k) ?_
        exact Xi.ret ⟨dX9_feed_40, Or.inl rfl⟩ h
      · have h := h.2 c
        refine Xi.up (pc' := 28) (fun _ _ k => x_aload_n dX9_feed_27 rfl rfl k) ?_
        refine Xi.up (pc' := 31) (fun _ _ k => x_getRK hK3 lf9_10 rfl dX9_feed_28 h0.1 h0.2.1 k) ?_
        refine Xi.up (pc' := 34) (fun _ _ k => x_getIK hK3 lf9_47 rfl dX9_feed_31 h0.2.2.2.2.2.2.1.1 k) ?_
        refine Xi.up (pc' := 40) (fun _ _ k => x_goto dX9_feed_34 rfl k) ?_
        exact Xi.ret ⟨dX9_feed_40, Or.inl rfl⟩ h
    · have h := h.2 c
      refine Xi.up (pc' := 15) (fun _ _ k => x_sipush dX9_feed_12 (show inR (-2001) from ⟨by decide, by decide⟩) (by decide) k) ?_
      exact Xi.ret ⟨dX9_feed_15, Or.inl rfl⟩ h
set_option maxHeartbeats 4000000 in
set_option maxRecDepth 20000 in
theorem B9_program {d : Nat} {K M : ZMem} {Q : Int → ZMem → Prop} (a1 : Int) (hK : KW K M) (h0 : TopAt K 2) (h : Cq d q9_programAt [zr 2, zi a1] M (fun x2 M1 => KW K M1 ∧ ((x2 ≠ 0 → (Ci d q5_readProgram [zr 5] M1 (fun x6 M5 => KW K M5 ∧ Cv d q7_clear [zr 3] M5 (fun M9 => KW K M9 ∧ ((x6 = (-1) → ((ProgramAt K x2) ∧ Cv d q4_become [zr x2, zr 8] M9 (fun M13 => KW K M13 ∧ Q (mI M13 x2 10) M13))) ∧ (¬ (x6 = (-1)) → ((inR ((-100) - x6)) ∧ Q ((-100) - x6) M9))))))) ∧ (¬ (x2 ≠ 0) → (Q (-2001) M1))))) : Ci (d + 1) q9_program [zr 2, zi a1] M Q := by
  refine Ci.of rfl rfl (Nat.le_of_ble_eq_true rfl) (fun w hw x e => by subst e; simp at hw) (L := [some (zr 2), some (zi a1), none, none]) rfl ?_
  refine Xi.up (pc' := 1) (fun _ _ k => x_aload_n dX9_program_0 rfl rfl k) ?_
  refine Xi.up (pc' := 2) (fun _ _ k => x_iload_n dX9_program_1 rfl rfl k) ?_
  obtain ⟨x2, M1, hc4, hK3, h⟩ := h
  refine Xi.up (pc' := 5) (st' := [zr x2]) (fun _ _ k => x_callVK (ci := 9) (as := [zi a1]) (st := []) hK k9_programAt lm9_51 dX9_program_2 rfl (by decide) (zs8 rfl) h0.1 ⟨_, _, rfl⟩ hc4 k) ?_
  refine Xi.up (pc' := 6) (L' := [some (zr 2), some (zi a1), some (zr x2), none]) (fun _ _ k => x_astore_n dX9_program_5 rfl (by decide) rfl k) ?_
  refine Xi.up (pc' := 7) (fun _ _ k => x_aload_n dX9_program_6 rfl rfl k) ?_
  refine Xi.br (tgt := 14) (pc' := 10) (x2 ≠ 0) (fun _ _ kt kf => x_ifnonnull dX9_program_7 rfl kt (fun e => kf (fun n => n e))) (fun c => ?_) (fun c => ?_)
  · have h := h.1 c
    refine Xi.up (pc' := 15) (fun _ _ k => x_aload_n dX9_program_14 rfl rfl k) ?_
    refine Xi.up (pc' := 18) (fun _ _ k => x_getRK hK3 lf9_21 rfl dX9_program_15 h0.1 h0.2.2.1 k) ?_
    obtain ⟨x6, M5, hc8, hK7, h⟩ := h
    refine Xi.up (pc' := 21) (st' := [zi x6]) (fun _ _ k => x_callVK (ci := 5) (as := []) (st := []) hK3 k5_readProgram lm9_55 dX9_program_18 rfl (by decide) (zs8 rfl) h0.2.2.2.2.2.2.2.1.1 ⟨_, _, rfl⟩ hc8 k) ?_
    refine Xi.up (pc' := 22) (L' := [some (zr 2), some (zi a1), some (zr x2), some (zi x6)]) (fun _ _ k => x_istore_n dX9_program_21 rfl (by decide) rfl k) ?_
    refine Xi.up (pc' := 23) (fun _ _ k => x_aload_n dX9_program_22 rfl rfl k) ?_
    refine Xi.up (pc' := 26) (fun _ _ k => x_getRK hK7 lf9_10 rfl dX9_program_23 h0.1 h0.2.1 k) ?_
    obtain ⟨M9, hc11, hK10, h⟩ := h
    refine Xi.up (pc' := 29) (st' := []) (fun _ _ k => x_callVK (ci := 7) (as := []) (st := []) hK7 k7_clear lm9_59 dX9_program_26 rfl (by decide) (zs8 rfl) h0.2.2.2.2.2.2.1.1 ⟨_, _, rfl⟩ hc11 k) ?_
    refine Xi.up (pc' := 30) (fun _ _ k => x_iload_n dX9_program_29 rfl rfl k) ?_
    refine Xi.up (pc' := 31) (fun _ _ k => x_iconst dX9_program_30 (show inR (-1) from ⟨by decide, by decide⟩) k) ?_
    refine Xi.br (tgt := 39) (pc' := 34) (x6 = (-1)) (fun _ _ kt kf => x_icmp_eq dX9_program_31 rfl kt kf) (fun c => ?_) (fun c => ?_)
    · have h := h.1 c
      refine Xi.up (pc' := 40) (fun _ _ k => x_aload_n dX9_program_39 rfl rfl k) ?_
      refine Xi.up (pc' := 41) (fun _ _ k => x_aload_n dX9_program_40 rfl rfl k) ?_
      refine Xi.up (pc' := 44) (fun _ _ k => x_getRK hK10 lf9_21 rfl dX9_program_41 h0.1 h0.2.2.1 k) ?_
      refine Xi.up (pc' := 47) (fun _ _ k => x_getRK hK10 lf9_62 rfl dX9_program_44 h0.2.2.2.2.2.2.2.1.1 h0.2.2.2.2.2.2.2.1.2.2.2.2.1 k) ?_
      obtain ⟨g12, h⟩ := h
      obtain ⟨M13, hc15, hK14, h⟩ := h
      refine Xi.up (pc' := 50) (st' := []) (fun _ _ k => x_callVK (ci := 4) (as := [zr 8]) (st := []) hK10 k4_become lm9_66 dX9_program_47 rfl (by decide) (zs8 rfl) g12.1 ⟨_, _, rfl⟩ hc15 k) ?_
      refine Xi.up (pc' := 51) (fun _ _ k => x_aload_n dX9_program_50 rfl rfl k) ?_
      refine Xi.up (pc' := 54) (fun _ _ k => x_getIK hK14 lf9_70 rfl dX9_program_51 g12.1 k) ?_
      exact Xi.ret ⟨dX9_program_54, Or.inl rfl⟩ h
    · have h := h.2 c
      refine Xi.up (pc' := 36) (fun _ _ k => x_bipush dX9_program_34 (show inR (-100) from ⟨by decide, by decide⟩) (by decide) k) ?_
      refine Xi.up (pc' := 37) (fun _ _ k => x_iload_n dX9_program_36 rfl rfl k) ?_
      obtain ⟨g16, h⟩ := h
      refine Xi.up (pc' := 38) (fun _ _ k => x_isub dX9_program_37 g16 k) ?_
      exact Xi.ret ⟨dX9_program_38, Or.inl rfl⟩ h
  · have h := h.2 c
    refine Xi.up (pc' := 13) (fun _ _ k => x_sipush dX9_program_10 (show inR (-2001) from ⟨by decide, by decide⟩) (by decide) k) ?_
    exact Xi.ret ⟨dX9_program_13, Or.inl rfl⟩ h
set_option maxHeartbeats 4000000 in
set_option maxRecDepth 20000 in
theorem B9_cost {d : Nat} {K M : ZMem} {Q : Int → ZMem → Prop} (a1 : Int) (hK : KW K M) (h0 : TopAt K 2) (h : Cq d q9_programAt [zr 2, zi a1] M (fun x2 M1 => KW K M1 ∧ ((x2 ≠ 0 → ((ProgramAt K x2) ∧ (((mI M1 x2 10) ≠ 0 → (Ci d q5_readCost [zr 5] M1 (fun x7 M6 => KW K M6 ∧ Cv d q7_clear [zr 3] M6 (fun M10 => KW K M10 ∧ ((x7 = (-1) → (Cv d q1_become [zr (x2 + 13), zr 21] M10 (fun M13 => KW K M13 ∧ Q 1 M13))) ∧ (¬ (x7 = (-1)) → ((inR ((-100) - x7)) ∧ Q ((-100) - x7) M10))))))) ∧ (¬ ((mI M1 x2 10) ≠ 0) → (Q (-2003) M1))))) ∧ (¬ (x2 ≠ 0) → (Q (-2001) M1))))) : Ci (d + 1) q9_cost [zr 2, zi a1] M Q := by
  refine Ci.of rfl rfl (Nat.le_of_ble_eq_true rfl) (fun w hw x e => by subst e; simp at hw) (L := [some (zr 2), some (zi a1), none, none]) rfl ?_
  refine Xi.up (pc' := 1) (fun _ _ k => x_aload_n dX9_cost_0 rfl rfl k) ?_
  refine Xi.up (pc' := 2) (fun _ _ k => x_iload_n dX9_cost_1 rfl rfl k) ?_
  obtain ⟨x2, M1, hc4, hK3, h⟩ := h
  refine Xi.up (pc' := 5) (st' := [zr x2]) (fun _ _ k => x_callVK (ci := 9) (as := [zi a1]) (st := []) hK k9_programAt lm9_51 dX9_cost_2 rfl (by decide) (zs8 rfl) h0.1 ⟨_, _, rfl⟩ hc4 k) ?_
  refine Xi.up (pc' := 6) (L' := [some (zr 2), some (zi a1), some (zr x2), none]) (fun _ _ k => x_astore_n dX9_cost_5 rfl (by decide) rfl k) ?_
  refine Xi.up (pc' := 7) (fun _ _ k => x_aload_n dX9_cost_6 rfl rfl k) ?_
  refine Xi.br (tgt := 14) (pc' := 10) (x2 ≠ 0) (fun _ _ kt kf => x_ifnonnull dX9_cost_7 rfl kt (fun e => kf (fun n => n e))) (fun c => ?_) (fun c => ?_)
  · have h := h.1 c
    refine Xi.up (pc' := 15) (fun _ _ k => x_aload_n dX9_cost_14 rfl rfl k) ?_
    obtain ⟨g5, h⟩ := h
    refine Xi.up (pc' := 18) (L' := [some (zr 2), some (zi a1), some (zr x2), none]) (fun _ _ k => x_getIK hK3 lf9_70 rfl dX9_cost_15 g5.1 k) ?_
    refine Xi.br (tgt := 25) (pc' := 21) ((mI M1 x2 10) ≠ 0) (fun _ _ kt kf => x_if_ne dX9_cost_18 rfl kt kf) (fun c => ?_) (fun c => ?_)
    · have h := h.1 c
      refine Xi.up (pc' := 26) (fun _ _ k => x_aload_n dX9_cost_25 rfl rfl k) ?_
      refine Xi.up (pc' := 29) (fun _ _ k => x_getRK hK3 lf9_21 rfl dX9_cost_26 h0.1 h0.2.2.1 k) ?_
      obtain ⟨x7, M6, hc9, hK8, h⟩ := h
      refine Xi.up (pc' := 32) (st' := [zi x7]) (fun _ _ k => x_callVK (ci := 5) (as := []) (st := []) hK3 k5_readCost lm9_71 dX9_cost_29 rfl (by decide) (zs8 rfl) h0.2.2.2.2.2.2.2.1.1 ⟨_, _, rfl⟩ hc9 k) ?_
      refine Xi.up (pc' := 33) (L' := [some (zr 2), some (zi a1), some (zr x2), some (zi x7)]) (fun _ _ k => x_istore_n dX9_cost_32 rfl (by decide) rfl k) ?_
      refine Xi.up (pc' := 34) (fun _ _ k => x_aload_n dX9_cost_33 rfl rfl k) ?_
      refine Xi.up (pc' := 37) (fun _ _ k => x_getRK hK8 lf9_10 rfl dX9_cost_34 h0.1 h0.2.1 k) ?_
      obtain ⟨M10, hc12, hK11, h⟩ := h
      refine Xi.up (pc' := 40) (st' := []) (fun _ _ k => x_callVK (ci := 7) (as := []) (st := []) hK8 k7_clear lm9_59 dX9_cost_37 rfl (by decide) (zs8 rfl) h0.2.2.2.2.2.2.1.1 ⟨_, _, rfl⟩ hc12 k) ?_
      refine Xi.up (pc' := 41) (fun _ _ k => x_iload_n dX9_cost_40 rfl rfl k) ?_
      refine Xi.up (pc' := 42) (fun _ _ k => x_iconst dX9_cost_41 (show inR (-1) from ⟨by decide, by decide⟩) k) ?_
      refine Xi.br (tgt := 50) (pc' := 45) (x7 = (-1)) (fun _ _ kt kf => x_icmp_eq dX9_cost_42 rfl kt kf) (fun c => ?_) (fun c => ?_)
      · have h := h.1 c
        refine Xi.up (pc' := 51) (fun _ _ k => x_aload_n dX9_cost_50 rfl rfl k) ?_
        refine Xi.up (pc' := 54) (fun _ _ k => x_getRK hK11 lf9_74 rfl dX9_cost_51 g5.1 g5.2.2.2.2.2.2.2.2.2.2.1 k) ?_
        refine Xi.up (pc' := 55) (fun _ _ k => x_aload_n dX9_cost_54 rfl rfl k) ?_
        refine Xi.up (pc' := 58) (fun _ _ k => x_getRK hK11 lf9_21 rfl dX9_cost_55 h0.1 h0.2.2.1 k) ?_
        refine Xi.up (pc' := 61) (fun _ _ k => x_getRK hK11 lf9_62 rfl dX9_cost_58 h0.2.2.2.2.2.2.2.1.1 h0.2.2.2.2.2.2.2.1.2.2.2.2.1 k) ?_
        refine Xi.up (pc' := 64) (fun _ _ k => x_getRK hK11 lf9_74 rfl dX9_cost_61 h0.2.2.2.2.2.2.2.1.2.2.2.2.2.2.2.2.1 h0.2.2.2.2.2.2.2.1.2.2.2.2.2.2.2.2.2.2.2.2.2.2.2.2.2.2.1 k) ?_
        obtain ⟨M13, hc15, hK14, h⟩ := h
        refine Xi.up (pc' := 67) (st' := []) (fun _ _ k => x_callVK (ci := 1) (as := [zr 21]) (st := []) hK11 k1_become lm9_78 dX9_cost_64 rfl (by decide) (zs8 rfl) g5.2.2.2.2.2.2.2.2.2.2.2.2.2.2.2.2.2.2.2.2.1 ⟨_, _, rfl⟩ hc15 k) ?_
        refine Xi.up (pc' := 68) (fun _ _ k => x_iconst dX9_cost_67 (show inR 1 from ⟨by decide, by decide⟩) k) ?_
        exact Xi.ret ⟨dX9_cost_68, Or.inl rfl⟩ h
      · have h := h.2 c
        refine Xi.up (pc' := 47) (fun _ _ k => x_bipush dX9_cost_45 (show inR (-100) from ⟨by decide, by decide⟩) (by decide) k) ?_
        refine Xi.up (pc' := 48) (fun _ _ k => x_iload_n dX9_cost_47 rfl rfl k) ?_
        obtain ⟨g16, h⟩ := h
        refine Xi.up (pc' := 49) (fun _ _ k => x_isub dX9_cost_48 g16 k) ?_
        exact Xi.ret ⟨dX9_cost_49, Or.inl rfl⟩ h
    · have h := h.2 c
      refine Xi.up (pc' := 24) (fun _ _ k => x_sipush dX9_cost_21 (show inR (-2003) from ⟨by decide, by decide⟩) (by decide) k) ?_
      exact Xi.ret ⟨dX9_cost_24, Or.inl rfl⟩ h
  · have h := h.2 c
    refine Xi.up (pc' := 13) (fun _ _ k => x_sipush dX9_cost_10 (show inR (-2001) from ⟨by decide, by decide⟩) (by decide) k) ?_
    exact Xi.ret ⟨dX9_cost_13, Or.inl rfl⟩ h
set_option maxHeartbeats 4000000 in
set_option maxRecDepth 20000 in
theorem B9_begin {d : Nat} {K M : ZMem} {Q : Int → ZMem → Prop} (a1 : Int) (a2 : Int) (a3 : Int) (hK : KW K M) (h0 : TopAt K 2) (h : Cq d q9_searchAt [zr 2, zi a1] M (fun x2 M1 => KW K M1 ∧ ((x2 = 0 → (Q (-2001) M1)) ∧ (¬ (x2 = 0) → ((a3 < 0 → (Q (-2001) M1)) ∧ (¬ (a3 < 0) → ((a3 ≤ 5 → (Cq d q9_programAt [zr 2, zi a2] M1 (fun x6 M5 => KW K M5 ∧ ((x6 = 0 → (Q (-2003) M5)) ∧ (¬ (x6 = 0) → ((ProgramAt K x6) ∧ (((mI M5 x6 10) ≠ 0 → ((SearchAt K x2) ∧ Cv d q6_start [zr x2, zr x6, zi a3] M5 (fun M11 => KW K M11 ∧ Q 1 M11))) ∧ (¬ ((mI M5 x6 10) ≠ 0) → (Q (-2003) M5))))))))) ∧ (¬ (a3 ≤ 5) → (Q (-2001) M1))))))))) : Ci (d + 1) q9_begin [zr 2, zi a1, zi a2, zi a3] M Q := by
  refine Ci.of rfl rfl (Nat.le_of_ble_eq_true rfl) (fun w hw x e => by subst e; simp at hw) (L := [some (zr 2), some (zi a1), some (zi a2), some (zi a3), none, none]) rfl ?_
  refine Xi.up (pc' := 1) (fun _ _ k => x_aload_n dX9_begin_0 rfl rfl k) ?_
  refine Xi.up (pc' := 2) (fun _ _ k => x_iload_n dX9_begin_1 rfl rfl k) ?_
  obtain ⟨x2, M1, hc4, hK3, h⟩ := h
  refine Xi.up (pc' := 5) (st' := [zr x2]) (fun _ _ k => x_callVK (ci := 9) (as := [zi a1]) (st := []) hK k9_searchAt lm9_83 dX9_begin_2 rfl (by decide) (zs8 rfl) h0.1 ⟨_, _, rfl⟩ hc4 k) ?_
  refine Xi.up (pc' := 7) (L' := [some (zr 2), some (zi a1), some (zi a2), some (zi a3), some (zr x2), none]) (fun _ _ k => x_astore dX9_begin_5 (by decide) rfl k) ?_
  refine Xi.up (pc' := 9) (fun _ _ k => x_aload dX9_begin_7 rfl k) ?_
  refine Xi.br (tgt := 21) (pc' := 12) (x2 = 0) (fun _ _ kt kf => x_ifnull dX9_begin_9 rfl kt kf) (fun c => ?_) (fun c => ?_)
  · have h := h.1 c
    refine Xi.up (pc' := 24) (fun _ _ k => x_sipush dX9_begin_21 (show inR (-2001) from ⟨by decide, by decide⟩) (by decide) k) ?_
    exact Xi.ret ⟨dX9_begin_24, Or.inl rfl⟩ h
  · have h := h.2 c
    refine Xi.up (pc' := 13) (fun _ _ k => x_iload_n dX9_begin_12 rfl rfl k) ?_
    refine Xi.br (tgt := 21) (pc' := 16) (a3 < 0) (fun _ _ kt kf => x_if_lt dX9_begin_13 rfl kt kf) (fun c => ?_) (fun c => ?_)
    · have h := h.1 c
      refine Xi.up (pc' := 24) (fun _ _ k => x_sipush dX9_begin_21 (show inR (-2001) from ⟨by decide, by decide⟩) (by decide) k) ?_
      exact Xi.ret ⟨dX9_begin_24, Or.inl rfl⟩ h
    · have h := h.2 c
      refine Xi.up (pc' := 17) (fun _ _ k => x_iload_n dX9_begin_16 rfl rfl k) ?_
      refine Xi.up (pc' := 18) (fun _ _ k => x_iconst dX9_begin_17 (show inR 5 from ⟨by decide, by decide⟩) k) ?_
      refine Xi.br (tgt := 25) (pc' := 21) (a3 ≤ 5) (fun _ _ kt kf => x_icmp_le dX9_begin_18 rfl kt kf) (fun c => ?_) (fun c => ?_)
      · have h := h.1 c
        refine Xi.up (pc' := 26) (fun _ _ k => x_aload_n dX9_begin_25 rfl rfl k) ?_
        refine Xi.up (pc' := 27) (fun _ _ k => x_iload_n dX9_begin_26 rfl rfl k) ?_
        obtain ⟨x6, M5, hc8, hK7, h⟩ := h
        refine Xi.up (pc' := 30) (st' := [zr x6]) (fun _ _ k => x_callVK (ci := 9) (as := [zi a2]) (st := []) hK3 k9_programAt lm9_51 dX9_begin_27 rfl (by decide) (zs8 rfl) h0.1 ⟨_, _, rfl⟩ hc8 k) ?_
        refine Xi.up (pc' := 32) (L' := [some (zr 2), some (zi a1), some (zi a2), some (zi a3), some (zr x2), some (zr x6)]) (fun _ _ k => x_astore dX9_begin_30 (by decide) rfl k) ?_
        refine Xi.up (pc' := 34) (fun _ _ k => x_aload dX9_begin_32 rfl k) ?_
        refine Xi.br (tgt := 45) (pc' := 37) (x6 = 0) (fun _ _ kt kf => x_ifnull dX9_begin_34 rfl kt kf) (fun c => ?_) (fun c => ?_)
        · have h := h.1 c
          refine Xi.up (pc' := 48) (fun _ _ k => x_sipush dX9_begin_45 (show inR (-2003) from ⟨by decide, by decide⟩) (by decide) k) ?_
          exact Xi.ret ⟨dX9_begin_48, Or.inl rfl⟩ h
        · have h := h.2 c
          refine Xi.up (pc' := 39) (fun _ _ k => x_aload dX9_begin_37 rfl k) ?_
          obtain ⟨g9, h⟩ := h
          refine Xi.up (pc' := 42) (L' := [some (zr 2), some (zi a1), some (zi a2), some (zi a3), some (zr x2), some (zr x6)]) (fun _ _ k => x_getIK hK7 lf9_70 rfl dX9_begin_39 g9.1 k) ?_
          refine Xi.br (tgt := 49) (pc' := 45) ((mI M5 x6 10) ≠ 0) (fun _ _ kt kf => x_if_ne dX9_begin_42 rfl kt kf) (fun c => ?_) (fun c => ?_)
          · have h := h.1 c
            refine Xi.up (pc' := 51) (fun _ _ k => x_aload dX9_begin_49 rfl k) ?_
            refine Xi.up (pc' := 53) (fun _ _ k => x_aload dX9_begin_51 rfl k) ?_
            refine Xi.up (pc' := 54) (fun _ _ k => x_iload_n dX9_begin_53 rfl rfl k) ?_
            obtain ⟨g10, h⟩ := h
            obtain ⟨M11, hc13, hK12, h⟩ := h
            refine Xi.up (pc' := 57) (st' := []) (fun _ _ k => x_callVK (ci := 6) (as := [zr x6, zi a3]) (st := []) hK7 k6_start lm9_87 dX9_begin_54 rfl (by decide) (zs8 rfl) g10.1 ⟨_, _, rfl⟩ hc13 k) ?_
            refine Xi.up (pc' := 58) (fun _ _ k => x_iconst dX9_begin_57 (show inR 1 from ⟨by decide, by decide⟩) k) ?_
            exact Xi.ret ⟨dX9_begin_58, Or.inl rfl⟩ h
          · have h := h.2 c
            refine Xi.up (pc' := 48) (fun _ _ k => x_sipush dX9_begin_45 (show inR (-2003) from ⟨by decide, by decide⟩) (by decide) k) ?_
            exact Xi.ret ⟨dX9_begin_48, Or.inl rfl⟩ h
      · have h := h.2 c
        refine Xi.up (pc' := 24) (fun _ _ k => x_sipush dX9_begin_21 (show inR (-2001) from ⟨by decide, by decide⟩) (by decide) k) ?_
        exact Xi.ret ⟨dX9_begin_24, Or.inl rfl⟩ h
set_option maxHeartbeats 4000000 in
set_option maxRecDepth 20000 in
theorem B9_go {d : Nat} {K M : ZMem} {Q : Int → ZMem → Prop} (a1 : Int) (a2 : Int) (hK : KW K M) (h0 : TopAt K 2) (h : Cq d q9_searchAt [zr 2, zi a1] M (fun x2 M1 => KW K M1 ∧ ((x2 = 0 → (Q (-2001) M1)) ∧ (¬ (x2 = 0) → ((a2 < 1 → (Q (-2001) M1)) ∧ (¬ (a2 < 1) → ((a2 ≤ 500 → ((SearchAt K x2) ∧ (((mI M1 x2 7) ≠ 1 → (Q (-2003) M1)) ∧ (¬ ((mI M1 x2 7) ≠ 1) → (Ci d q6_run [zr x2, zi a2, zi 1] M1 (fun x7 M6 => KW K M6 ∧ Q x7 M6)))))) ∧ (¬ (a2 ≤ 500) → (Q (-2001) M1))))))))) : Ci (d + 1) q9_go [zr 2, zi a1, zi a2] M Q := by
  refine Ci.of rfl rfl (Nat.le_of_ble_eq_true rfl) (fun w hw x e => by subst e; simp at hw) (L := [some (zr 2), some (zi a1), some (zi a2), none]) rfl ?_
  refine Xi.up (pc' := 1) (fun _ _ k => x_aload_n dX9_go_0 rfl rfl k) ?_
  refine Xi.up (pc' := 2) (fun _ _ k => x_iload_n dX9_go_1 rfl rfl k) ?_
  obtain ⟨x2, M1, hc4, hK3, h⟩ := h
  refine Xi.up (pc' := 5) (st' := [zr x2]) (fun _ _ k => x_callVK (ci := 9) (as := [zi a1]) (st := []) hK k9_searchAt lm9_83 dX9_go_2 rfl (by decide) (zs8 rfl) h0.1 ⟨_, _, rfl⟩ hc4 k) ?_
  refine Xi.up (pc' := 6) (L' := [some (zr 2), some (zi a1), some (zi a2), some (zr x2)]) (fun _ _ k => x_astore_n dX9_go_5 rfl (by decide) rfl k) ?_
  refine Xi.up (pc' := 7) (fun _ _ k => x_aload_n dX9_go_6 rfl rfl k) ?_
  refine Xi.br (tgt := 22) (pc' := 10) (x2 = 0) (fun _ _ kt kf => x_ifnull dX9_go_7 rfl kt kf) (fun c => ?_) (fun c => ?_)
  · have h := h.1 c
    refine Xi.up (pc' := 25) (fun _ _ k => x_sipush dX9_go_22 (show inR (-2001) from ⟨by decide, by decide⟩) (by decide) k) ?_
    exact Xi.ret ⟨dX9_go_25, Or.inl rfl⟩ h
  · have h := h.2 c
    refine Xi.up (pc' := 11) (fun _ _ k => x_iload_n dX9_go_10 rfl rfl k) ?_
    refine Xi.up (pc' := 12) (fun _ _ k => x_iconst dX9_go_11 (show inR 1 from ⟨by decide, by decide⟩) k) ?_
    refine Xi.br (tgt := 22) (pc' := 15) (a2 < 1) (fun _ _ kt kf => x_icmp_lt dX9_go_12 rfl kt kf) (fun c => ?_) (fun c => ?_)
    · have h := h.1 c
      refine Xi.up (pc' := 25) (fun _ _ k => x_sipush dX9_go_22 (show inR (-2001) from ⟨by decide, by decide⟩) (by decide) k) ?_
      exact Xi.ret ⟨dX9_go_25, Or.inl rfl⟩ h
    · have h := h.2 c
      refine Xi.up (pc' := 16) (fun _ _ k => x_iload_n dX9_go_15 rfl rfl k) ?_
      refine Xi.up (pc' := 19) (fun _ _ k => x_sipush dX9_go_16 (show inR 500 from ⟨by decide, by decide⟩) (by decide) k) ?_
      refine Xi.br (tgt := 26) (pc' := 22) (a2 ≤ 500) (fun _ _ kt kf => x_icmp_le dX9_go_19 rfl kt kf) (fun c => ?_) (fun c => ?_)
      · have h := h.1 c
        refine Xi.up (pc' := 27) (fun _ _ k => x_aload_n dX9_go_26 rfl rfl k) ?_
        obtain ⟨g5, h⟩ := h
        refine Xi.up (pc' := 30) (L' := [some (zr 2), some (zi a1), some (zi a2), some (zr x2)]) (fun _ _ k => x_getIK hK3 lf9_91 rfl dX9_go_27 g5.1 k) ?_
        refine Xi.up (pc' := 31) (fun _ _ k => x_iconst dX9_go_30 (show inR 1 from ⟨by decide, by decide⟩) k) ?_
        refine Xi.br (tgt := 43) (pc' := 34) ((mI M1 x2 7) ≠ 1) (fun _ _ kt kf => x_icmp_ne dX9_go_31 rfl kt kf) (fun c => ?_) (fun c => ?_)
        · have h := h.1 c
          refine Xi.up (pc' := 46) (fun _ _ k => x_sipush dX9_go_43 (show inR (-2003) from ⟨by decide, by decide⟩) (by decide) k) ?_
          exact Xi.ret ⟨dX9_go_46, Or.inl rfl⟩ h
        · have h := h.2 c
          refine Xi.up (pc' := 35) (fun _ _ k => x_aload_n dX9_go_34 rfl rfl k) ?_
          refine Xi.up (pc' := 36) (fun _ _ k => x_iload_n dX9_go_35 rfl rfl k) ?_
          refine Xi.up (pc' := 37) (fun _ _ k => x_iconst dX9_go_36 (show inR 1 from ⟨by decide, by decide⟩) k) ?_
          obtain ⟨x7, M6, hc9, hK8, h⟩ := h
          refine Xi.up (pc' := 40) (st' := [zi x7]) (fun _ _ k => x_callVK (ci := 6) (as := [zi a2, zi 1]) (st := []) hK3 k6_run lm9_94 dX9_go_37 rfl (by decide) (zs8 rfl) g5.1 ⟨_, _, rfl⟩ hc9 k) ?_
          refine Xi.up (pc' := 46) (fun _ _ k => x_goto dX9_go_40 rfl k) ?_
          exact Xi.ret ⟨dX9_go_46, Or.inl rfl⟩ h
      · have h := h.2 c
        refine Xi.up (pc' := 25) (fun _ _ k => x_sipush dX9_go_22 (show inR (-2001) from ⟨by decide, by decide⟩) (by decide) k) ?_
        exact Xi.ret ⟨dX9_go_25, Or.inl rfl⟩ h
set_option maxHeartbeats 4000000 in
set_option maxRecDepth 20000 in
theorem B9_all {d : Nat} {K M : ZMem} {Q : Int → ZMem → Prop} (a1 : Int) (a2 : Int) (hK : KW K M) (h0 : TopAt K 2) (h : Cq d q9_searchAt [zr 2, zi a1] M (fun x2 M1 => KW K M1 ∧ ((x2 = 0 → (Q (-2001) M1)) ∧ (¬ (x2 = 0) → ((a2 < 1 → (Q (-2001) M1)) ∧ (¬ (a2 < 1) → ((a2 ≤ 2000 → ((SearchAt K x2) ∧ (((mI M1 x2 7) = 1 → (Ci d q6_run [zr x2, zi a2, zi 0] M1 (fun x7 M6 => KW K M6 ∧ (inR ((mI M6 (x2 + 18) 1) - (mI M1 (x2 + 18) 1))) ∧ Q ((mI M6 (x2 + 18) 1) - (mI M1 (x2 + 18) 1)) M6))) ∧ (¬ ((mI M1 x2 7) = 1) → (Q (-2003) M1))))) ∧ (¬ (a2 ≤ 2000) → (Q (-2001) M1))))))))) : Ci (d + 1) q9_all [zr 2, zi a1, zi a2] M Q := by
  refine Ci.of rfl rfl (Nat.le_of_ble_eq_true rfl) (fun w hw x e => by subst e; simp at hw) (L := [some (zr 2), some (zi a1), some (zi a2), none, none]) rfl ?_
  refine Xi.up (pc' := 1) (fun _ _ k => x_aload_n dX9_all_0 rfl rfl k) ?_
  refine Xi.up (pc' := 2) (fun _ _ k => x_iload_n dX9_all_1 rfl rfl k) ?_
  obtain ⟨x2, M1, hc4, hK3, h⟩ := h
  refine Xi.up (pc' := 5) (st' := [zr x2]) (fun _ _ k => x_callVK (ci := 9) (as := [zi a1]) (st := []) hK k9_searchAt lm9_83 dX9_all_2 rfl (by decide) (zs8 rfl) h0.1 ⟨_, _, rfl⟩ hc4 k) ?_
  refine Xi.up (pc' := 6) (L' := [some (zr 2), some (zi a1), some (zi a2), some (zr x2), none]) (fun _ _ k => x_astore_n dX9_all_5 rfl (by decide) rfl k) ?_
  refine Xi.up (pc' := 7) (fun _ _ k => x_aload_n dX9_all_6 rfl rfl k) ?_
  refine Xi.br (tgt := 22) (pc' := 10) (x2 = 0) (fun _ _ kt kf => x_ifnull dX9_all_7 rfl kt kf) (fun c => ?_) (fun c => ?_)
  · have h := h.1 c
    refine Xi.up (pc' := 25) (fun _ _ k => x_sipush dX9_all_22 (show inR (-2001) from ⟨by decide, by decide⟩) (by decide) k) ?_
    exact Xi.ret ⟨dX9_all_25, Or.inl rfl⟩ h
  · have h := h.2 c
    refine Xi.up (pc' := 11) (fun _ _ k => x_iload_n dX9_all_10 rfl rfl k) ?_
    refine Xi.up (pc' := 12) (fun _ _ k => x_iconst dX9_all_11 (show inR 1 from ⟨by decide, by decide⟩) k) ?_
    refine Xi.br (tgt := 22) (pc' := 15) (a2 < 1) (fun _ _ kt kf => x_icmp_lt dX9_all_12 rfl kt kf) (fun c => ?_) (fun c => ?_)
    · have h := h.1 c
      refine Xi.up (pc' := 25) (fun _ _ k => x_sipush dX9_all_22 (show inR (-2001) from ⟨by decide, by decide⟩) (by decide) k) ?_
      exact Xi.ret ⟨dX9_all_25, Or.inl rfl⟩ h
    · have h := h.2 c
      refine Xi.up (pc' := 16) (fun _ _ k => x_iload_n dX9_all_15 rfl rfl k) ?_
      refine Xi.up (pc' := 19) (fun _ _ k => x_sipush dX9_all_16 (show inR 2000 from ⟨by decide, by decide⟩) (by decide) k) ?_
      refine Xi.br (tgt := 26) (pc' := 22) (a2 ≤ 2000) (fun _ _ kt kf => x_icmp_le dX9_all_19 rfl kt kf) (fun c => ?_) (fun c => ?_)
      · have h := h.1 c
        refine Xi.up (pc' := 27) (fun _ _ k => x_aload_n dX9_all_26 rfl rfl k) ?_
        obtain ⟨g5, h⟩ := h
        refine Xi.up (pc' := 30) (L' := [some (zr 2), some (zi a1), some (zi a2), some (zr x2), none]) (fun _ _ k => x_getIK hK3 lf9_91 rfl dX9_all_27 g5.1 k) ?_
        refine Xi.up (pc' := 31) (fun _ _ k => x_iconst dX9_all_30 (show inR 1 from ⟨by decide, by decide⟩) k) ?_
        refine Xi.br (tgt := 38) (pc' := 34) ((mI M1 x2 7) = 1) (fun _ _ kt kf => x_icmp_eq dX9_all_31 rfl kt kf) (fun c => ?_) (fun c => ?_)
        · have h := h.1 c
          refine Xi.up (pc' := 39) (fun _ _ k => x_aload_n dX9_all_38 rfl rfl k) ?_
          refine Xi.up (pc' := 42) (fun _ _ k => x_getRK hK3 lf9_98 rfl dX9_all_39 g5.1 g5.2.2.1 k) ?_
          refine Xi.up (pc' := 45) (fun _ _ k => x_getIK hK3 lf9_102 rfl dX9_all_42 g5.2.2.2.2.2.2.2.2.2.2.2.2.1.1 k) ?_
          refine Xi.up (pc' := 47) (L' := [some (zr 2), some (zi a1), some (zi a2), some (zr x2), some (zi (mI M1 (x2 + 18) 1))]) (fun _ _ k => x_istore dX9_all_45 (by decide) rfl k) ?_
          refine Xi.up (pc' := 48) (fun _ _ k => x_aload_n dX9_all_47 rfl rfl k) ?_
          refine Xi.up (pc' := 49) (fun _ _ k => x_iload_n dX9_all_48 rfl rfl k) ?_
          refine Xi.up (pc' := 50) (fun _ _ k => x_iconst dX9_all_49 (show inR 0 from ⟨by decide, by decide⟩) k) ?_
          obtain ⟨x7, M6, hc9, hK8, h⟩ := h
          refine Xi.up (pc' := 53) (st' := [zi x7]) (fun _ _ k => x_callVK (ci := 6) (as := [zi a2, zi 0]) (st := []) hK3 k6_run lm9_94 dX9_all_50 rfl (by decide) (zs8 rfl) g5.1 ⟨_, _, rfl⟩ hc9 k) ?_
          refine Xi.up (pc' := 54) (fun _ _ k => x_popI dX9_all_53 k) ?_
          refine Xi.up (pc' := 55) (fun _ _ k => x_aload_n dX9_all_54 rfl rfl k) ?_
          refine Xi.up (pc' := 58) (fun _ _ k => x_getRK hK8 lf9_98 rfl dX9_all_55 g5.1 g5.2.2.1 k) ?_
          refine Xi.up (pc' := 61) (fun _ _ k => x_getIK hK8 lf9_102 rfl dX9_all_58 g5.2.2.2.2.2.2.2.2.2.2.2.2.1.1 k) ?_
          refine Xi.up (pc' := 63) (fun _ _ k => x_iload dX9_all_61 rfl k) ?_
          obtain ⟨g10, h⟩ := h
          refine Xi.up (pc' := 64) (fun _ _ k => x_isub dX9_all_63 g10 k) ?_
          exact Xi.ret ⟨dX9_all_64, Or.inl rfl⟩ h
        · have h := h.2 c
          refine Xi.up (pc' := 37) (fun _ _ k => x_sipush dX9_all_34 (show inR (-2003) from ⟨by decide, by decide⟩) (by decide) k) ?_
          exact Xi.ret ⟨dX9_all_37, Or.inl rfl⟩ h
      · have h := h.2 c
        refine Xi.up (pc' := 25) (fun _ _ k => x_sipush dX9_all_22 (show inR (-2001) from ⟨by decide, by decide⟩) (by decide) k) ?_
        exact Xi.ret ⟨dX9_all_25, Or.inl rfl⟩ h
set_option maxHeartbeats 4000000 in
set_option maxRecDepth 20000 in
theorem B9_of {d : Nat} {K M : ZMem} {Q : Int → ZMem → Prop} (a1 : Int) (a2 : Int) (hK : KW K M) (h0 : TopAt K 2) (h : Cq d q9_searchAt [zr 2, zi a1] M (fun x2 M1 => KW K M1 ∧ ((x2 = 0 → (Q (-2001) M1)) ∧ (¬ (x2 = 0) → ((a2 < 0 → (Q (-2001) M1)) ∧ (¬ (a2 < 0) → ((a2 ≤ 9 → ((a2 ≠ 0 → ((SearchAt K x2) ∧ (((mI M1 x2 7) ≠ 0 → (Ci d q6_tell [zr x2, zi a2] M1 (fun x7 M6 => KW K M6 ∧ Q x7 M6))) ∧ (¬ ((mI M1 x2 7) ≠ 0) → (Q (-2003) M1))))) ∧ (¬ (a2 ≠ 0) → ((SearchAt K x2) ∧ Q (mI M1 x2 7) M1)))) ∧ (¬ (a2 ≤ 9) → (Q (-2001) M1))))))))) : Ci (d + 1) q9_of [zr 2, zi a1, zi a2] M Q := by
  refine Ci.of rfl rfl (Nat.le_of_ble_eq_true rfl) (fun w hw x e => by subst e; simp at hw) (L := [some (zr 2), some (zi a1), some (zi a2), none]) rfl ?_
  refine Xi.up (pc' := 1) (fun _ _ k => x_aload_n dX9_of_0 rfl rfl k) ?_
  refine Xi.up (pc' := 2) (fun _ _ k => x_iload_n dX9_of_1 rfl rfl k) ?_
  obtain ⟨x2, M1, hc4, hK3, h⟩ := h
  refine Xi.up (pc' := 5) (st' := [zr x2]) (fun _ _ k => x_callVK (ci := 9) (as := [zi a1]) (st := []) hK k9_searchAt lm9_83 dX9_of_2 rfl (by decide) (zs8 rfl) h0.1 ⟨_, _, rfl⟩ hc4 k) ?_
  refine Xi.up (pc' := 6) (L' := [some (zr 2), some (zi a1), some (zi a2), some (zr x2)]) (fun _ _ k => x_astore_n dX9_of_5 rfl (by decide) rfl k) ?_
  refine Xi.up (pc' := 7) (fun _ _ k => x_aload_n dX9_of_6 rfl rfl k) ?_
  refine Xi.br (tgt := 20) (pc' := 10) (x2 = 0) (fun _ _ kt kf => x_ifnull dX9_of_7 rfl kt kf) (fun c => ?_) (fun c => ?_)
  · have h := h.1 c
    refine Xi.up (pc' := 23) (fun _ _ k => x_sipush dX9_of_20 (show inR (-2001) from ⟨by decide, by decide⟩) (by decide) k) ?_
    exact Xi.ret ⟨dX9_of_23, Or.inl rfl⟩ h
  · have h := h.2 c
    refine Xi.up (pc' := 11) (fun _ _ k => x_iload_n dX9_of_10 rfl rfl k) ?_
    refine Xi.br (tgt := 20) (pc' := 14) (a2 < 0) (fun _ _ kt kf => x_if_lt dX9_of_11 rfl kt kf) (fun c => ?_) (fun c => ?_)
    · have h := h.1 c
      refine Xi.up (pc' := 23) (fun _ _ k => x_sipush dX9_of_20 (show inR (-2001) from ⟨by decide, by decide⟩) (by decide) k) ?_
      exact Xi.ret ⟨dX9_of_23, Or.inl rfl⟩ h
    · have h := h.2 c
      refine Xi.up (pc' := 15) (fun _ _ k => x_iload_n dX9_of_14 rfl rfl k) ?_
      refine Xi.up (pc' := 17) (fun _ _ k => x_bipush dX9_of_15 (show inR 9 from ⟨by decide, by decide⟩) (by decide) k) ?_
      refine Xi.br (tgt := 24) (pc' := 20) (a2 ≤ 9) (fun _ _ kt kf => x_icmp_le dX9_of_17 rfl kt kf) (fun c => ?_) (fun c => ?_)
      · have h := h.1 c
        refine Xi.up (pc' := 25) (fun _ _ k => x_iload_n dX9_of_24 rfl rfl k) ?_
        refine Xi.br (tgt := 33) (pc' := 28) (a2 ≠ 0) (fun _ _ kt kf => x_if_ne dX9_of_25 rfl kt kf) (fun c => ?_) (fun c => ?_)
        · have h := h.1 c
          refine Xi.up (pc' := 34) (fun _ _ k => x_aload_n dX9_of_33 rfl rfl k) ?_
          obtain ⟨g5, h⟩ := h
          refine Xi.up (pc' := 37) (L' := [some (zr 2), some (zi a1), some (zi a2), some (zr x2)]) (fun _ _ k => x_getIK hK3 lf9_91 rfl dX9_of_34 g5.1 k) ?_
          refine Xi.br (tgt := 46) (pc' := 40) ((mI M1 x2 7) ≠ 0) (fun _ _ kt kf => x_if_ne dX9_of_37 rfl kt kf) (fun c => ?_) (fun c => ?_)
          · have h := h.1 c
            refine Xi.up (pc' := 47) (fun _ _ k => x_aload_n dX9_of_46 rfl rfl k) ?_
            refine Xi.up (pc' := 48) (fun _ _ k => x_iload_n dX9_of_47 rfl rfl k) ?_
            obtain ⟨x7, M6, hc9, hK8, h⟩ := h
            refine Xi.up (pc' := 51) (st' := [zi x7]) (fun _ _ k => x_callVK (ci := 6) (as := [zi a2]) (st := []) hK3 k6_tell lm9_105 dX9_of_48 rfl (by decide) (zs8 rfl) g5.1 ⟨_, _, rfl⟩ hc9 k) ?_
            exact Xi.ret ⟨dX9_of_51, Or.inl rfl⟩ h
          · have h := h.2 c
            refine Xi.up (pc' := 43) (fun _ _ k => x_sipush dX9_of_40 (show inR (-2003) from ⟨by decide, by decide⟩) (by decide) k) ?_
            refine Xi.up (pc' := 51) (fun _ _ k => x_goto dX9_of_43 rfl k) ?_
            exact Xi.ret ⟨dX9_of_51, Or.inl rfl⟩ h
        · have h := h.2 c
          refine Xi.up (pc' := 29) (fun _ _ k => x_aload_n dX9_of_28 rfl rfl k) ?_
          obtain ⟨g10, h⟩ := h
          refine Xi.up (pc' := 32) (L' := [some (zr 2), some (zi a1), some (zi a2), some (zr x2)]) (fun _ _ k => x_getIK hK3 lf9_91 rfl dX9_of_29 g10.1 k) ?_
          exact Xi.ret ⟨dX9_of_32, Or.inl rfl⟩ h
      · have h := h.2 c
        refine Xi.up (pc' := 23) (fun _ _ k => x_sipush dX9_of_20 (show inR (-2001) from ⟨by decide, by decide⟩) (by decide) k) ?_
        exact Xi.ret ⟨dX9_of_23, Or.inl rfl⟩ h
set_option maxHeartbeats 4000000 in
set_option maxRecDepth 20000 in
theorem B9_answer {d : Nat} {K M : ZMem} {Q : Int → ZMem → Prop} (a1 : Int) (a2 : Int) (a3 : Int) (hK : KW K M) (h0 : TopAt K 2) (h : Cq d q9_searchAt [zr 2, zi a1] M (fun x2 M1 => KW K M1 ∧ ((x2 = 0 → (Q (-2001) M1)) ∧ (¬ (x2 = 0) → ((a2 < 0 → (Q (-2001) M1)) ∧ (¬ (a2 < 0) → ((a3 < 0 → (Q (-2001) M1)) ∧ (¬ (a3 < 0) → ((a3 < 12 → ((SearchAt K x2) ∧ (((mI M1 x2 7) ≠ 0 → (((mI M1 (x2 + 18) 1) ≤ a2 → (Q (-2002) M1)) ∧ (¬ ((mI M1 (x2 + 18) 1) ≤ a2) → (Ci d q0_field [zr (x2 + 18), zi a2, zi a3] M1 (fun x7 M6 => KW K M6 ∧ Q x7 M6))))) ∧ (¬ ((mI M1 x2 7) ≠ 0) → (Q (-2003) M1))))) ∧ (¬ (a3 < 12) → (Q (-2001) M1))))))))))) : Ci (d + 1) q9_answer [zr 2, zi a1, zi a2, zi a3] M Q := by
  refine Ci.of rfl rfl (Nat.le_of_ble_eq_true rfl) (fun w hw x e => by subst e; simp at hw) (L := [some (zr 2), some (zi a1), some (zi a2), some (zi a3), none]) rfl ?_
  refine Xi.up (pc' := 1) (fun _ _ k => x_aload_n dX9_answer_0 rfl rfl k) ?_
  refine Xi.up (pc' := 2) (fun _ _ k => x_iload_n dX9_answer_1 rfl rfl k) ?_
  obtain ⟨x2, M1, hc4, hK3, h⟩ := h
  refine Xi.up (pc' := 5) (st' := [zr x2]) (fun _ _ k => x_callVK (ci := 9) (as := [zi a1]) (st := []) hK k9_searchAt lm9_83 dX9_answer_2 rfl (by decide) (zs8 rfl) h0.1 ⟨_, _, rfl⟩ hc4 k) ?_
  refine Xi.up (pc' := 7) (L' := [some (zr 2), some (zi a1), some (zi a2), some (zi a3), some (zr x2)]) (fun _ _ k => x_astore dX9_answer_5 (by decide) rfl k) ?_
  refine Xi.up (pc' := 9) (fun _ _ k => x_aload dX9_answer_7 rfl k) ?_
  refine Xi.br (tgt := 26) (pc' := 12) (x2 = 0) (fun _ _ kt kf => x_ifnull dX9_answer_9 rfl kt kf) (fun c => ?_) (fun c => ?_)
  · have h := h.1 c
    refine Xi.up (pc' := 29) (fun _ _ k => x_sipush dX9_answer_26 (show inR (-2001) from ⟨by decide, by decide⟩) (by decide) k) ?_
    exact Xi.ret ⟨dX9_answer_29, Or.inl rfl⟩ h
  · have h := h.2 c
    refine Xi.up (pc' := 13) (fun _ _ k => x_iload_n dX9_answer_12 rfl rfl k) ?_
    refine Xi.br (tgt := 26) (pc' := 16) (a2 < 0) (fun _ _ kt kf => x_if_lt dX9_answer_13 rfl kt kf) (fun c => ?_) (fun c => ?_)
    · have h := h.1 c
      refine Xi.up (pc' := 29) (fun _ _ k => x_sipush dX9_answer_26 (show inR (-2001) from ⟨by decide, by decide⟩) (by decide) k) ?_
      exact Xi.ret ⟨dX9_answer_29, Or.inl rfl⟩ h
    · have h := h.2 c
      refine Xi.up (pc' := 17) (fun _ _ k => x_iload_n dX9_answer_16 rfl rfl k) ?_
      refine Xi.br (tgt := 26) (pc' := 20) (a3 < 0) (fun _ _ kt kf => x_if_lt dX9_answer_17 rfl kt kf) (fun c => ?_) (fun c => ?_)
      · have h := h.1 c
        refine Xi.up (pc' := 29) (fun _ _ k => x_sipush dX9_answer_26 (show inR (-2001) from ⟨by decide, by decide⟩) (by decide) k) ?_
        exact Xi.ret ⟨dX9_answer_29, Or.inl rfl⟩ h
      · have h := h.2 c
        refine Xi.up (pc' := 21) (fun _ _ k => x_iload_n dX9_answer_20 rfl rfl k) ?_
        refine Xi.up (pc' := 23) (fun _ _ k => x_bipush dX9_answer_21 (show inR 12 from ⟨by decide, by decide⟩) (by decide) k) ?_
        refine Xi.br (tgt := 30) (pc' := 26) (a3 < 12) (fun _ _ kt kf => x_icmp_lt dX9_answer_23 rfl kt kf) (fun c => ?_) (fun c => ?_)
        · have h := h.1 c
          refine Xi.up (pc' := 32) (fun _ _ k => x_aload dX9_answer_30 rfl k) ?_
          obtain ⟨g5, h⟩ := h
          refine Xi.up (pc' := 35) (L' := [some (zr 2), some (zi a1), some (zi a2), some (zi a3), some (zr x2)]) (fun _ _ k => x_getIK hK3 lf9_91 rfl dX9_answer_32 g5.1 k) ?_
          refine Xi.br (tgt := 42) (pc' := 38) ((mI M1 x2 7) ≠ 0) (fun _ _ kt kf => x_if_ne dX9_answer_35 rfl kt kf) (fun c => ?_) (fun c => ?_)
          · have h := h.1 c
            refine Xi.up (pc' := 43) (fun _ _ k => x_iload_n dX9_answer_42 rfl rfl k) ?_
            refine Xi.up (pc' := 45) (fun _ _ k => x_aload dX9_answer_43 rfl k) ?_
            refine Xi.up (pc' := 48) (fun _ _ k => x_getRK hK3 lf9_98 rfl dX9_answer_45 g5.1 g5.2.2.1 k) ?_
            refine Xi.up (pc' := 51) (fun _ _ k => x_getIK hK3 lf9_102 rfl dX9_answer_48 g5.2.2.2.2.2.2.2.2.2.2.2.2.1.1 k) ?_
            refine Xi.br (tgt := 67) (pc' := 54) ((mI M1 (x2 + 18) 1) ≤ a2) (fun _ _ kt kf => x_icmp_ge dX9_answer_51 rfl kt kf) (fun c => ?_) (fun c => ?_)
            · have h := h.1 c
              refine Xi.up (pc' := 70) (fun _ _ k => x_sipush dX9_answer_67 (show inR (-2002) from ⟨by decide, by decide⟩) (by decide) k) ?_
              exact Xi.ret ⟨dX9_answer_70, Or.inl rfl⟩ h
            · have h := h.2 c
              refine Xi.up (pc' := 56) (fun _ _ k => x_aload dX9_answer_54 rfl k) ?_
              refine Xi.up (pc' := 59) (fun _ _ k => x_getRK hK3 lf9_98 rfl dX9_answer_56 g5.1 g5.2.2.1 k) ?_
              refine Xi.up (pc' := 60) (fun _ _ k => x_iload_n dX9_answer_59 rfl rfl k) ?_
              refine Xi.up (pc' := 61) (fun _ _ k => x_iload_n dX9_answer_60 rfl rfl k) ?_
              obtain ⟨x7, M6, hc9, hK8, h⟩ := h
              refine Xi.up (pc' := 64) (st' := [zi x7]) (fun _ _ k => x_callVK (ci := 0) (as := [zi a2, zi a3]) (st := []) hK3 k0_field lm9_109 dX9_answer_61 rfl (by decide) (zs8 rfl) g5.2.2.2.2.2.2.2.2.2.2.2.2.1.1 ⟨_, _, rfl⟩ hc9 k) ?_
              refine Xi.up (pc' := 70) (fun _ _ k => x_goto dX9_answer_64 rfl k) ?_
              exact Xi.ret ⟨dX9_answer_70, Or.inl rfl⟩ h
          · have h := h.2 c
            refine Xi.up (pc' := 41) (fun _ _ k => x_sipush dX9_answer_38 (show inR (-2003) from ⟨by decide, by decide⟩) (by decide) k) ?_
            exact Xi.ret ⟨dX9_answer_41, Or.inl rfl⟩ h
        · have h := h.2 c
          refine Xi.up (pc' := 29) (fun _ _ k => x_sipush dX9_answer_26 (show inR (-2001) from ⟨by decide, by decide⟩) (by decide) k) ?_
          exact Xi.ret ⟨dX9_answer_29, Or.inl rfl⟩ h
set_option maxHeartbeats 4000000 in
set_option maxRecDepth 20000 in
theorem B9_next {d : Nat} {K M : ZMem} {Q : Int → ZMem → Prop} (a1 : Int) (hK : KW K M) (h0 : TopAt K 2) (h : Cq d q9_searchAt [zr 2, zi a1] M (fun x2 M1 => KW K M1 ∧ ((x2 ≠ 0 → ((SearchAt K x2) ∧ (((mI M1 x2 7) ≠ 0 → (Ci d q6_mayTake [zr x2] M1 (fun x7 M6 => KW K M6 ∧ ((x7 = 0 → (Q (-2002) M6)) ∧ (¬ (x7 = 0) → (Ci d q6_chosen [zr x2] M6 (fun x11 M10 => KW K M10 ∧ Q x11 M10))))))) ∧ (¬ ((mI M1 x2 7) ≠ 0) → (Q (-2003) M1))))) ∧ (¬ (x2 ≠ 0) → (Q (-2001) M1))))) : Ci (d + 1) q9_next [zr 2, zi a1] M Q := by
  refine Ci.of rfl rfl (Nat.le_of_ble_eq_true rfl) (fun w hw x e => by subst e; simp at hw) (L := [some (zr 2), some (zi a1), none]) rfl ?_
  refine Xi.up (pc' := 1) (fun _ _ k => x_aload_n dX9_next_0 rfl rfl k) ?_
  refine Xi.up (pc' := 2) (fun _ _ k => x_iload_n dX9_next_1 rfl rfl k) ?_
  obtain ⟨x2, M1, hc4, hK3, h⟩ := h
  refine Xi.up (pc' := 5) (st' := [zr x2]) (fun _ _ k => x_callVK (ci := 9) (as := [zi a1]) (st := []) hK k9_searchAt lm9_83 dX9_next_2 rfl (by decide) (zs8 rfl) h0.1 ⟨_, _, rfl⟩ hc4 k) ?_
  refine Xi.up (pc' := 6) (L' := [some (zr 2), some (zi a1), some (zr x2)]) (fun _ _ k => x_astore_n dX9_next_5 rfl (by decide) rfl k) ?_
  refine Xi.up (pc' := 7) (fun _ _ k => x_aload_n dX9_next_6 rfl rfl k) ?_
  refine Xi.br (tgt := 14) (pc' := 10) (x2 ≠ 0) (fun _ _ kt kf => x_ifnonnull dX9_next_7 rfl kt (fun e => kf (fun n => n e))) (fun c => ?_) (fun c => ?_)
  · have h := h.1 c
    refine Xi.up (pc' := 15) (fun _ _ k => x_aload_n dX9_next_14 rfl rfl k) ?_
    obtain ⟨g5, h⟩ := h
    refine Xi.up (pc' := 18) (L' := [some (zr 2), some (zi a1), some (zr x2)]) (fun _ _ k => x_getIK hK3 lf9_91 rfl dX9_next_15 g5.1 k) ?_
    refine Xi.br (tgt := 25) (pc' := 21) ((mI M1 x2 7) ≠ 0) (fun _ _ kt kf => x_if_ne dX9_next_18 rfl kt kf) (fun c => ?_) (fun c => ?_)
    · have h := h.1 c
      refine Xi.up (pc' := 26) (fun _ _ k => x_aload_n dX9_next_25 rfl rfl k) ?_
      obtain ⟨x7, M6, hc9, hK8, h⟩ := h
      refine Xi.up (pc' := 29) (st' := [zi x7]) (fun _ _ k => x_callVK (ci := 6) (as := []) (st := []) hK3 k6_mayTake lm9_126 dX9_next_26 rfl (by decide) (zs8 rfl) g5.1 ⟨_, _, rfl⟩ hc9 k) ?_
      refine Xi.br (tgt := 39) (pc' := 32) (x7 = 0) (fun _ _ kt kf => x_if_eq dX9_next_29 rfl kt kf) (fun c => ?_) (fun c => ?_)
      · have h := h.1 c
        refine Xi.up (pc' := 42) (fun _ _ k => x_sipush dX9_next_39 (show inR (-2002) from ⟨by decide, by decide⟩) (by decide) k) ?_
        exact Xi.ret ⟨dX9_next_42, Or.inl rfl⟩ h
      · have h := h.2 c
        refine Xi.up (pc' := 33) (fun _ _ k => x_aload_n dX9_next_32 rfl rfl k) ?_
        obtain ⟨x11, M10, hc13, hK12, h⟩ := h
        refine Xi.up (pc' := 36) (st' := [zi x11]) (fun _ _ k => x_callVK (ci := 6) (as := []) (st := []) hK8 k6_chosen lm9_130 dX9_next_33 rfl (by decide) (zs8 rfl) g5.1 ⟨_, _, rfl⟩ hc13 k) ?_
        refine Xi.up (pc' := 42) (fun _ _ k => x_goto dX9_next_36 rfl k) ?_
        exact Xi.ret ⟨dX9_next_42, Or.inl rfl⟩ h
    · have h := h.2 c
      refine Xi.up (pc' := 24) (fun _ _ k => x_sipush dX9_next_21 (show inR (-2003) from ⟨by decide, by decide⟩) (by decide) k) ?_
      exact Xi.ret ⟨dX9_next_24, Or.inl rfl⟩ h
  · have h := h.2 c
    refine Xi.up (pc' := 13) (fun _ _ k => x_sipush dX9_next_10 (show inR (-2001) from ⟨by decide, by decide⟩) (by decide) k) ?_
    exact Xi.ret ⟨dX9_next_13, Or.inl rfl⟩ h
set_option maxHeartbeats 4000000 in
set_option maxRecDepth 20000 in
theorem B9_ordered {d : Nat} {K M : ZMem} {Q : Int → ZMem → Prop} (a1 : Int) (a2 : Int) (hK : KW K M) (h0 : TopAt K 2) (h : Cq d q9_searchAt [zr 2, zi a1] M (fun x2 M1 => KW K M1 ∧ ((x2 = 0 → (Q (-2001) M1)) ∧ (¬ (x2 = 0) → ((0 ≤ a2 → ((SearchAt K x2) ∧ (((mI M1 x2 7) ≠ 0 → (((mI M1 (x2 + 18) 1) ≤ a2 → (Q (-2002) M1)) ∧ (¬ ((mI M1 (x2 + 18) 1) ≤ a2) → (Ci d q0_ranked [zr (x2 + 18), zi a2] M1 (fun x7 M6 => KW K M6 ∧ Q x7 M6))))) ∧ (¬ ((mI M1 x2 7) ≠ 0) → (Q (-2003) M1))))) ∧ (¬ (0 ≤ a2) → (Q (-2001) M1))))))) : Ci (d + 1) q9_ordered [zr 2, zi a1, zi a2] M Q := by
  refine Ci.of rfl rfl (Nat.le_of_ble_eq_true rfl) (fun w hw x e => by subst e; simp at hw) (L := [some (zr 2), some (zi a1), some (zi a2), none]) rfl ?_
  refine Xi.up (pc' := 1) (fun _ _ k => x_aload_n dX9_ordered_0 rfl rfl k) ?_
  refine Xi.up (pc' := 2) (fun _ _ k => x_iload_n dX9_ordered_1 rfl rfl k) ?_
  obtain ⟨x2, M1, hc4, hK3, h⟩ := h
  refine Xi.up (pc' := 5) (st' := [zr x2]) (fun _ _ k => x_callVK (ci := 9) (as := [zi a1]) (st := []) hK k9_searchAt lm9_83 dX9_ordered_2 rfl (by decide) (zs8 rfl) h0.1 ⟨_, _, rfl⟩ hc4 k) ?_
  refine Xi.up (pc' := 6) (L' := [some (zr 2), some (zi a1), some (zi a2), some (zr x2)]) (fun _ _ k => x_astore_n dX9_ordered_5 rfl (by decide) rfl k) ?_
  refine Xi.up (pc' := 7) (fun _ _ k => x_aload_n dX9_ordered_6 rfl rfl k) ?_
  refine Xi.br (tgt := 14) (pc' := 10) (x2 = 0) (fun _ _ kt kf => x_ifnull dX9_ordered_7 rfl kt kf) (fun c => ?_) (fun c => ?_)
  · have h := h.1 c
    refine Xi.up (pc' := 17) (fun _ _ k => x_sipush dX9_ordered_14 (show inR (-2001) from ⟨by decide, by decide⟩) (by decide) k) ?_
    exact Xi.ret ⟨dX9_ordered_17, Or.inl rfl⟩ h
  · have h := h.2 c
    refine Xi.up (pc' := 11) (fun _ _ k => x_iload_n dX9_ordered_10 rfl rfl k) ?_
    refine Xi.br (tgt := 18) (pc' := 14) (0 ≤ a2) (fun _ _ kt kf => x_if_ge dX9_ordered_11 rfl kt kf) (fun c => ?_) (fun c => ?_)
    · have h := h.1 c
      refine Xi.up (pc' := 19) (fun _ _ k => x_aload_n dX9_ordered_18 rfl rfl k) ?_
      obtain ⟨g5, h⟩ := h
      refine Xi.up (pc' := 22) (L' := [some (zr 2), some (zi a1), some (zi a2), some (zr x2)]) (fun _ _ k => x_getIK hK3 lf9_91 rfl dX9_ordered_19 g5.1 k) ?_
      refine Xi.br (tgt := 29) (pc' := 25) ((mI M1 x2 7) ≠ 0) (fun _ _ kt kf => x_if_ne dX9_ordered_22 rfl kt kf) (fun c => ?_) (fun c => ?_)
      · have h := h.1 c
        refine Xi.up (pc' := 30) (fun _ _ k => x_iload_n dX9_ordered_29 rfl rfl k) ?_
        refine Xi.up (pc' := 31) (fun _ _ k => x_aload_n dX9_ordered_30 rfl rfl k) ?_
        refine Xi.up (pc' := 34) (fun _ _ k => x_getRK hK3 lf9_98 rfl dX9_ordered_31 g5.1 g5.2.2.1 k) ?_
        refine Xi.up (pc' := 37) (fun _ _ k => x_getIK hK3 lf9_102 rfl dX9_ordered_34 g5.2.2.2.2.2.2.2.2.2.2.2.2.1.1 k) ?_
        refine Xi.br (tgt := 51) (pc' := 40) ((mI M1 (x2 + 18) 1) ≤ a2) (fun _ _ kt kf => x_icmp_ge dX9_ordered_37 rfl kt kf) (fun c => ?_) (fun c => ?_)
        · have h := h.1 c
          refine Xi.up (pc' := 54) (fun _ _ k => x_sipush dX9_ordered_51 (show inR (-2002) from ⟨by decide, by decide⟩) (by decide) k) ?_
          exact Xi.ret ⟨dX9_ordered_54, Or.inl rfl⟩ h
        · have h := h.2 c
          refine Xi.up (pc' := 41) (fun _ _ k => x_aload_n dX9_ordered_40 rfl rfl k) ?_
          refine Xi.up (pc' := 44) (fun _ _ k => x_getRK hK3 lf9_98 rfl dX9_ordered_41 g5.1 g5.2.2.1 k) ?_
          refine Xi.up (pc' := 45) (fun _ _ k => x_iload_n dX9_ordered_44 rfl rfl k) ?_
          obtain ⟨x7, M6, hc9, hK8, h⟩ := h
          refine Xi.up (pc' := 48) (st' := [zi x7]) (fun _ _ k => x_callVK (ci := 0) (as := [zi a2]) (st := []) hK3 k0_ranked lm9_133 dX9_ordered_45 rfl (by decide) (zs8 rfl) g5.2.2.2.2.2.2.2.2.2.2.2.2.1.1 ⟨_, _, rfl⟩ hc9 k) ?_
          refine Xi.up (pc' := 54) (fun _ _ k => x_goto dX9_ordered_48 rfl k) ?_
          exact Xi.ret ⟨dX9_ordered_54, Or.inl rfl⟩ h
      · have h := h.2 c
        refine Xi.up (pc' := 28) (fun _ _ k => x_sipush dX9_ordered_25 (show inR (-2003) from ⟨by decide, by decide⟩) (by decide) k) ?_
        exact Xi.ret ⟨dX9_ordered_28, Or.inl rfl⟩ h
    · have h := h.2 c
      refine Xi.up (pc' := 17) (fun _ _ k => x_sipush dX9_ordered_14 (show inR (-2001) from ⟨by decide, by decide⟩) (by decide) k) ?_
      exact Xi.ret ⟨dX9_ordered_17, Or.inl rfl⟩ h
set_option maxHeartbeats 4000000 in
set_option maxRecDepth 20000 in
theorem B9_common {d : Nat} {K M : ZMem} {Q : Int → ZMem → Prop} (a1 : Int) (a2 : Int) (hK : KW K M) (h0 : TopAt K 2) (h : Cq d q9_searchAt [zr 2, zi a1] M (fun x2 M1 => KW K M1 ∧ Cq d q9_searchAt [zr 2, zi a2] M1 (fun x6 M5 => KW K M5 ∧ ((x2 = 0 → (Q (-2001) M5)) ∧ (¬ (x2 = 0) → ((x6 ≠ 0 → ((SearchAt K x2) ∧ (((mI M5 x2 7) = 0 → (Q (-2003) M5)) ∧ (¬ ((mI M5 x2 7) = 0) → ((SearchAt K x6) ∧ (((mI M5 x6 7) ≠ 0 → (Ci d q0_sharedWith [zr (x2 + 18), zr (x6 + 18)] M5 (fun x12 M11 => KW K M11 ∧ Q x12 M11))) ∧ (¬ ((mI M5 x6 7) ≠ 0) → (Q (-2003) M5)))))))) ∧ (¬ (x6 ≠ 0) → (Q (-2001) M5)))))))) : Ci (d + 1) q9_common [zr 2, zi a1, zi a2] M Q := by
  refine Ci.of rfl rfl (Nat.le_of_ble_eq_true rfl) (fun w hw x e => by subst e; simp at hw) (L := [some (zr 2), some (zi a1), some (zi a2), none, none]) rfl ?_
  refine Xi.up (pc' := 1) (fun _ _ k => x_aload_n dX9_common_0 rfl rfl k) ?_
  refine Xi.up (pc' := 2) (fun _ _ k => x_iload_n dX9_common_1 rfl rfl k) ?_
  obtain ⟨x2, M1, hc4, hK3, h⟩ := h
  refine Xi.up (pc' := 5) (st' := [zr x2]) (fun _ _ k => x_callVK (ci := 9) (as := [zi a1]) (st := []) hK k9_searchAt lm9_83 dX9_common_2 rfl (by decide) (zs8 rfl) h0.1 ⟨_, _, rfl⟩ hc4 k) ?_
  refine Xi.up (pc' := 6) (L' := [some (zr 2), some (zi a1), some (zi a2), some (zr x2), none]) (fun _ _ k => x_astore_n dX9_common_5 rfl (by decide) rfl k) ?_
  refine Xi.up (pc' := 7) (fun _ _ k => x_aload_n dX9_common_6 rfl rfl k) ?_
  refine Xi.up (pc' := 8) (fun _ _ k => x_iload_n dX9_common_7 rfl rfl k) ?_
  obtain ⟨x6, M5, hc8, hK7, h⟩ := h
  refine Xi.up (pc' := 11) (st' := [zr x6]) (fun _ _ k => x_callVK (ci := 9) (as := [zi a2]) (st := []) hK3 k9_searchAt lm9_83 dX9_common_8 rfl (by decide) (zs8 rfl) h0.1 ⟨_, _, rfl⟩ hc8 k) ?_
  refine Xi.up (pc' := 13) (L' := [some (zr 2), some (zi a1), some (zi a2), some (zr x2), some (zr x6)]) (fun _ _ k => x_astore dX9_common_11 (by decide) rfl k) ?_
  refine Xi.up (pc' := 14) (fun _ _ k => x_aload_n dX9_common_13 rfl rfl k) ?_
  refine Xi.br (tgt := 22) (pc' := 17) (x2 = 0) (fun _ _ kt kf => x_ifnull dX9_common_14 rfl kt kf) (fun c => ?_) (fun c => ?_)
  · have h := h.1 c
    refine Xi.up (pc' := 25) (fun _ _ k => x_sipush dX9_common_22 (show inR (-2001) from ⟨by decide, by decide⟩) (by decide) k) ?_
    exact Xi.ret ⟨dX9_common_25, Or.inl rfl⟩ h
  · have h := h.2 c
    refine Xi.up (pc' := 19) (fun _ _ k => x_aload dX9_common_17 rfl k) ?_
    refine Xi.br (tgt := 26) (pc' := 22) (x6 ≠ 0) (fun _ _ kt kf => x_ifnonnull dX9_common_19 rfl kt (fun e => kf (fun n => n e))) (fun c => ?_) (fun c => ?_)
    · have h := h.1 c
      refine Xi.up (pc' := 27) (fun _ _ k => x_aload_n dX9_common_26 rfl rfl k) ?_
      obtain ⟨g9, h⟩ := h
      refine Xi.up (pc' := 30) (L' := [some (zr 2), some (zi a1), some (zi a2), some (zr x2), some (zr x6)]) (fun _ _ k => x_getIK hK7 lf9_91 rfl dX9_common_27 g9.1 k) ?_
      refine Xi.br (tgt := 41) (pc' := 33) ((mI M5 x2 7) = 0) (fun _ _ kt kf => x_if_eq dX9_common_30 rfl kt kf) (fun c => ?_) (fun c => ?_)
      · have h := h.1 c
        refine Xi.up (pc' := 44) (fun _ _ k => x_sipush dX9_common_41 (show inR (-2003) from ⟨by decide, by decide⟩) (by decide) k) ?_
        exact Xi.ret ⟨dX9_common_44, Or.inl rfl⟩ h
      · have h := h.2 c
        refine Xi.up (pc' := 35) (fun _ _ k => x_aload dX9_common_33 rfl k) ?_
        obtain ⟨g10, h⟩ := h
        refine Xi.up (pc' := 38) (L' := [some (zr 2), some (zi a1), some (zi a2), some (zr x2), some (zr x6)]) (fun _ _ k => x_getIK hK7 lf9_91 rfl dX9_common_35 g10.1 k) ?_
        refine Xi.br (tgt := 45) (pc' := 41) ((mI M5 x6 7) ≠ 0) (fun _ _ kt kf => x_if_ne dX9_common_38 rfl kt kf) (fun c => ?_) (fun c => ?_)
        · have h := h.1 c
          refine Xi.up (pc' := 46) (fun _ _ k => x_aload_n dX9_common_45 rfl rfl k) ?_
          refine Xi.up (pc' := 49) (fun _ _ k => x_getRK hK7 lf9_98 rfl dX9_common_46 g9.1 g9.2.2.1 k) ?_
          refine Xi.up (pc' := 51) (fun _ _ k => x_aload dX9_common_49 rfl k) ?_
          refine Xi.up (pc' := 54) (fun _ _ k => x_getRK hK7 lf9_98 rfl dX9_common_51 g10.1 g10.2.2.1 k) ?_
          obtain ⟨x12, M11, hc14, hK13, h⟩ := h
          refine Xi.up (pc' := 57) (st' := [zi x12]) (fun _ _ k => x_callVK (ci := 0) (as := [zr (x6 + 18)]) (st := []) hK7 k0_sharedWith lm9_136 dX9_common_54 rfl (by decide) (zs8 rfl) g9.2.2.2.2.2.2.2.2.2.2.2.2.1.1 ⟨_, _, rfl⟩ hc14 k) ?_
          exact Xi.ret ⟨dX9_common_57, Or.inl rfl⟩ h
        · have h := h.2 c
          refine Xi.up (pc' := 44) (fun _ _ k => x_sipush dX9_common_41 (show inR (-2003) from ⟨by decide, by decide⟩) (by decide) k) ?_
          exact Xi.ret ⟨dX9_common_44, Or.inl rfl⟩ h
    · have h := h.2 c
      refine Xi.up (pc' := 25) (fun _ _ k => x_sipush dX9_common_22 (show inR (-2001) from ⟨by decide, by decide⟩) (by decide) k) ?_
      exact Xi.ret ⟨dX9_common_25, Or.inl rfl⟩ h
set_option maxHeartbeats 4000000 in
set_option maxRecDepth 20000 in
theorem B9_unlike {d : Nat} {K M : ZMem} {Q : Int → ZMem → Prop} (a1 : Int) (hK : KW K M) (h0 : TopAt K 2) (h : Cq d q9_searchAt [zr 2, zi a1] M (fun x2 M1 => KW K M1 ∧ ((x2 ≠ 0 → ((SearchAt K x2) ∧ (((mI M1 x2 7) ≠ 0 → (Ci d q0_different [zr (x2 + 18)] M1 (fun x7 M6 => KW K M6 ∧ Q x7 M6))) ∧ (¬ ((mI M1 x2 7) ≠ 0) → (Q (-2003) M1))))) ∧ (¬ (x2 ≠ 0) → (Q (-2001) M1))))) : Ci (d + 1) q9_unlike [zr 2, zi a1] M Q := by
  refine Ci.of rfl rfl (Nat.le_of_ble_eq_true rfl) (fun w hw x e => by subst e; simp at hw) (L := [some (zr 2), some (zi a1), none]) rfl ?_
  refine Xi.up (pc' := 1) (fun _ _ k => x_aload_n dX9_unlike_0 rfl rfl k) ?_
  refine Xi.up (pc' := 2) (fun _ _ k => x_iload_n dX9_unlike_1 rfl rfl k) ?_
  obtain ⟨x2, M1, hc4, hK3, h⟩ := h
  refine Xi.up (pc' := 5) (st' := [zr x2]) (fun _ _ k => x_callVK (ci := 9) (as := [zi a1]) (st := []) hK k9_searchAt lm9_83 dX9_unlike_2 rfl (by decide) (zs8 rfl) h0.1 ⟨_, _, rfl⟩ hc4 k) ?_
  refine Xi.up (pc' := 6) (L' := [some (zr 2), some (zi a1), some (zr x2)]) (fun _ _ k => x_astore_n dX9_unlike_5 rfl (by decide) rfl k) ?_
  refine Xi.up (pc' := 7) (fun _ _ k => x_aload_n dX9_unlike_6 rfl rfl k) ?_
  refine Xi.br (tgt := 14) (pc' := 10) (x2 ≠ 0) (fun _ _ kt kf => x_ifnonnull dX9_unlike_7 rfl kt (fun e => kf (fun n => n e))) (fun c => ?_) (fun c => ?_)
  · have h := h.1 c
    refine Xi.up (pc' := 15) (fun _ _ k => x_aload_n dX9_unlike_14 rfl rfl k) ?_
    obtain ⟨g5, h⟩ := h
    refine Xi.up (pc' := 18) (L' := [some (zr 2), some (zi a1), some (zr x2)]) (fun _ _ k => x_getIK hK3 lf9_91 rfl dX9_unlike_15 g5.1 k) ?_
    refine Xi.br (tgt := 27) (pc' := 21) ((mI M1 x2 7) ≠ 0) (fun _ _ kt kf => x_if_ne dX9_unlike_18 rfl kt kf) (fun c => ?_) (fun c => ?_)
    · have h := h.1 c
      refine Xi.up (pc' := 28) (fun _ _ k => x_aload_n dX9_unlike_27 rfl rfl k) ?_
      refine Xi.up (pc' := 31) (fun _ _ k => x_getRK hK3 lf9_98 rfl dX9_unlike_28 g5.1 g5.2.2.1 k) ?_
      obtain ⟨x7, M6, hc9, hK8, h⟩ := h
      refine Xi.up (pc' := 34) (st' := [zi x7]) (fun _ _ k => x_callVK (ci := 0) (as := []) (st := []) hK3 k0_different lm9_140 dX9_unlike_31 rfl (by decide) (zs8 rfl) g5.2.2.2.2.2.2.2.2.2.2.2.2.1.1 ⟨_, _, rfl⟩ hc9 k) ?_
      exact Xi.ret ⟨dX9_unlike_34, Or.inl rfl⟩ h
    · have h := h.2 c
      refine Xi.up (pc' := 24) (fun _ _ k => x_sipush dX9_unlike_21 (show inR (-2003) from ⟨by decide, by decide⟩) (by decide) k) ?_
      refine Xi.up (pc' := 34) (fun _ _ k => x_goto dX9_unlike_24 rfl k) ?_
      exact Xi.ret ⟨dX9_unlike_34, Or.inl rfl⟩ h
  · have h := h.2 c
    refine Xi.up (pc' := 13) (fun _ _ k => x_sipush dX9_unlike_10 (show inR (-2001) from ⟨by decide, by decide⟩) (by decide) k) ?_
    exact Xi.ret ⟨dX9_unlike_13, Or.inl rfl⟩ h
set_option maxHeartbeats 4000000 in
set_option maxRecDepth 20000 in
theorem B9_programAt {d : Nat} {K M : ZMem} {Q : Nat → ZMem → Prop} (a1 : Int) (hK : KW K M) (h0 : TopAt K 2) (h : ((a1 < 0 → (Q 0 M)) ∧ (¬ (a1 < 0) → ((4 ≤ a1 → (Q 0 M)) ∧ (¬ (4 ≤ a1) → ((0 ≤ a1) ∧ (a1 < 4) ∧ Q (mR M 25 a1.toNat) M)))))) : Cq d q9_programAt [zr 2, zi a1] M Q := by
  refine Cq.of rfl rfl (Nat.le_of_ble_eq_true rfl) (fun w hw x e => by subst e; simp at hw) (L := [some (zr 2), some (zi a1)]) rfl ?_
  refine Xq.up (pc' := 1) (fun _ _ k => x_iload_n dX9_programAt_0 rfl rfl k) ?_
  refine Xq.br (tgt := 22) (pc' := 4) (a1 < 0) (fun _ _ kt kf => x_if_lt dX9_programAt_1 rfl kt kf) (fun c => ?_) (fun c => ?_)
  · have h := h.1 c
    refine Xq.up (pc' := 23) (fun _ _ k => x_null dX9_programAt_22 k) ?_
    exact Xq.ret ⟨dX9_programAt_23, _, rfl⟩ h
  · have h := h.2 c
    refine Xq.up (pc' := 5) (fun _ _ k => x_iload_n dX9_programAt_4 rfl rfl k) ?_
    refine Xq.up (pc' := 6) (fun _ _ k => x_aload_n dX9_programAt_5 rfl rfl k) ?_
    refine Xq.up (pc' := 9) (fun _ _ k => x_getRK hK lf9_27 rfl dX9_programAt_6 h0.1 h0.2.2.2.1 k) ?_
    refine Xq.up (pc' := 10) (fun _ _ k => x_alenK hK dX9_programAt_9 h0.2.2.2.2.2.2.2.2.1 (by decide) (by decide) k) ?_
    refine Xq.br (tgt := 22) (pc' := 13) (4 ≤ a1) (fun _ _ kt kf => x_icmp_ge dX9_programAt_10 rfl kt kf) (fun c => ?_) (fun c => ?_)
    · have h := h.1 c
      refine Xq.up (pc' := 23) (fun _ _ k => x_null dX9_programAt_22 k) ?_
      exact Xq.ret ⟨dX9_programAt_23, _, rfl⟩ h
    · have h := h.2 c
      refine Xq.up (pc' := 14) (fun _ _ k => x_aload_n dX9_programAt_13 rfl rfl k) ?_
      refine Xq.up (pc' := 17) (fun _ _ k => x_getRK hK lf9_27 rfl dX9_programAt_14 h0.1 h0.2.2.2.1 k) ?_
      refine Xq.up (pc' := 18) (fun _ _ k => x_iload_n dX9_programAt_17 rfl rfl k) ?_
      obtain ⟨g1, h⟩ := h
      obtain ⟨g2, h⟩ := h
      refine Xq.up (pc' := 19) (fun _ _ k => x_aaloadK hK dX9_programAt_18 h0.2.2.2.2.2.2.2.2.1 (by decide) g1 g2 k) ?_
      refine Xq.up (pc' := 23) (fun _ _ k => x_goto dX9_programAt_19 rfl k) ?_
      exact Xq.ret ⟨dX9_programAt_23, _, rfl⟩ h
set_option maxHeartbeats 4000000 in
set_option maxRecDepth 20000 in
theorem B9_searchAt {d : Nat} {K M : ZMem} {Q : Nat → ZMem → Prop} (a1 : Int) (hK : KW K M) (h0 : TopAt K 2) (h : ((a1 < 0 → (Q 0 M)) ∧ (¬ (a1 < 0) → ((4 ≤ a1 → (Q 0 M)) ∧ (¬ (4 ≤ a1) → ((0 ≤ a1) ∧ (a1 < 4) ∧ Q (mR M 26 a1.toNat) M)))))) : Cq d q9_searchAt [zr 2, zi a1] M Q := by
  refine Cq.of rfl rfl (Nat.le_of_ble_eq_true rfl) (fun w hw x e => by subst e; simp at hw) (L := [some (zr 2), some (zi a1)]) rfl ?_
  refine Xq.up (pc' := 1) (fun _ _ k => x_iload_n dX9_searchAt_0 rfl rfl k) ?_
  refine Xq.br (tgt := 22) (pc' := 4) (a1 < 0) (fun _ _ kt kf => x_if_lt dX9_searchAt_1 rfl kt kf) (fun c => ?_) (fun c => ?_)
  · have h := h.1 c
    refine Xq.up (pc' := 23) (fun _ _ k => x_null dX9_searchAt_22 k) ?_
    exact Xq.ret ⟨dX9_searchAt_23, _, rfl⟩ h
  · have h := h.2 c
    refine Xq.up (pc' := 5) (fun _ _ k => x_iload_n dX9_searchAt_4 rfl rfl k) ?_
    refine Xq.up (pc' := 6) (fun _ _ k => x_aload_n dX9_searchAt_5 rfl rfl k) ?_
    refine Xq.up (pc' := 9) (fun _ _ k => x_getRK hK lf9_33 rfl dX9_searchAt_6 h0.1 h0.2.2.2.2.1 k) ?_
    refine Xq.up (pc' := 10) (fun _ _ k => x_alenK hK dX9_searchAt_9 h0.2.2.2.2.2.2.2.2.2.1 (by decide) (by decide) k) ?_
    refine Xq.br (tgt := 22) (pc' := 13) (4 ≤ a1) (fun _ _ kt kf => x_icmp_ge dX9_searchAt_10 rfl kt kf) (fun c => ?_) (fun c => ?_)
    · have h := h.1 c
      refine Xq.up (pc' := 23) (fun _ _ k => x_null dX9_searchAt_22 k) ?_
      exact Xq.ret ⟨dX9_searchAt_23, _, rfl⟩ h
    · have h := h.2 c
      refine Xq.up (pc' := 14) (fun _ _ k => x_aload_n dX9_searchAt_13 rfl rfl k) ?_
      refine Xq.up (pc' := 17) (fun _ _ k => x_getRK hK lf9_33 rfl dX9_searchAt_14 h0.1 h0.2.2.2.2.1 k) ?_
      refine Xq.up (pc' := 18) (fun _ _ k => x_iload_n dX9_searchAt_17 rfl rfl k) ?_
      obtain ⟨g1, h⟩ := h
      obtain ⟨g2, h⟩ := h
      refine Xq.up (pc' := 19) (fun _ _ k => x_aaloadK hK dX9_searchAt_18 h0.2.2.2.2.2.2.2.2.2.1 (by decide) g1 g2 k) ?_
      refine Xq.up (pc' := 23) (fun _ _ k => x_goto dX9_searchAt_19 rfl k) ?_
      exact Xq.ret ⟨dX9_searchAt_23, _, rfl⟩ h
set_option maxHeartbeats 4000000 in
set_option maxRecDepth 20000 in
theorem B9_isValue {d : Nat} {K M : ZMem} {Q : Int → ZMem → Prop} (a1 : Int) (hK : KW K M)  (h : ((a1 < (-999) → (Q 0 M)) ∧ (¬ (a1 < (-999)) → ((999 < a1 → (Q 0 M)) ∧ (¬ (999 < a1) → (Q 1 M)))))) : Ci d q9_isValue [zi a1] M Q := by
  refine Ci.of rfl rfl (Nat.le_of_ble_eq_true rfl) (fun w hw x e => by subst e; simp at hw) (L := [some (zi a1)]) rfl ?_
  refine Xi.up (pc' := 1) (fun _ _ k => x_iload_n dX9_isValue_0 rfl rfl k) ?_
  refine Xi.up (pc' := 4) (fun _ _ k => x_sipush dX9_isValue_1 (show inR (-999) from ⟨by decide, by decide⟩) (by decide) k) ?_
  refine Xi.br (tgt := 18) (pc' := 7) (a1 < (-999)) (fun _ _ kt kf => x_icmp_lt dX9_isValue_4 rfl kt kf) (fun c => ?_) (fun c => ?_)
  · have h := h.1 c
    refine Xi.up (pc' := 19) (fun _ _ k => x_iconst dX9_isValue_18 (show inR 0 from ⟨by decide, by decide⟩) k) ?_
    exact Xi.ret ⟨dX9_isValue_19, Or.inr ⟨rfl, Or.inl rfl⟩⟩ h
  · have h := h.2 c
    refine Xi.up (pc' := 8) (fun _ _ k => x_iload_n dX9_isValue_7 rfl rfl k) ?_
    refine Xi.up (pc' := 11) (fun _ _ k => x_sipush dX9_isValue_8 (show inR 999 from ⟨by decide, by decide⟩) (by decide) k) ?_
    refine Xi.br (tgt := 18) (pc' := 14) (999 < a1) (fun _ _ kt kf => x_icmp_gt dX9_isValue_11 rfl kt kf) (fun c => ?_) (fun c => ?_)
    · have h := h.1 c
      refine Xi.up (pc' := 19) (fun _ _ k => x_iconst dX9_isValue_18 (show inR 0 from ⟨by decide, by decide⟩) k) ?_
      exact Xi.ret ⟨dX9_isValue_19, Or.inr ⟨rfl, Or.inl rfl⟩⟩ h
    · have h := h.2 c
      refine Xi.up (pc' := 15) (fun _ _ k => x_iconst dX9_isValue_14 (show inR 1 from ⟨by decide, by decide⟩) k) ?_
      refine Xi.up (pc' := 19) (fun _ _ k => x_goto dX9_isValue_15 rfl k) ?_
      exact Xi.ret ⟨dX9_isValue_19, Or.inr ⟨rfl, Or.inr rfl⟩⟩ h
