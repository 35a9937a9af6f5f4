set_option maxHeartbeats 4000000 in
set_option maxRecDepth 20000 in
theorem B5_readProgram {d : Nat} {K M : ZMem} {Q : Int → ZMem → Prop}  (hK : KW K M) (h0 : ReaderAt K 5) (h : Cv d q4_clear [zr 8] M (fun M1 => KW K M1 ∧ Cv d q5_setBefore [zr 5, zi (-1)] (sI (sI (sI (sI M1 5 4 0) 5 5 0) 5 6 1) 5 7 0) (fun M8 => KW K M8 ∧ Xi (d + 1) q5_readProgram 34 [some (zr 5), some (zi 0), none] [] M8 Q))) : Ci (d + 1) q5_readProgram [zr 5] M Q := by
  refine Ci.of rfl rfl (Nat.le_of_ble_eq_true rfl) (fun w hw x e => by subst e; simp at hw) (L := [some (zr 5), none, none]) rfl ?_
  refine Xi.up (pc' := 1) (fun _ _ k => x_aload_n dX5_readProgram_0 rfl rfl k) ?_
  refine Xi.up (pc' := 4) (fun _ _ k => x_getRK hK lf5_25 rfl dX5_readProgram_1 h0.1 h0.2.2.2.2.1 k) ?_
  obtain ⟨M1, hc3, hK2, h⟩ := h
  refine Xi.up (pc' := 7) (st' := []) (fun _ _ k => x_callVK (ci := 4) (as := []) (st := []) hK k4_clear lm5_29 dX5_readProgram_4 rfl (by decide) (zs8 rfl) h0.2.2.2.2.2.2.2.2.1 ⟨_, _, rfl⟩ hc3 k) ?_
  refine Xi.up (pc' := 8) (fun _ _ k => x_aload_n dX5_readProgram_7 rfl rfl k) ?_
  refine Xi.up (pc' := 9) (fun _ _ k => x_iconst dX5_readProgram_8 (show inR 0 from ⟨by decide, by decide⟩) k) ?_
  refine Xi.up (pc' := 12) (fun _ _ k => x_putIK hK2 lf5_32 rfl rfl (Or.inl rfl) dX5_readProgram_9 h0.1 k) ?_
  have hK4 := KW.sI hK2 5 4 0
  refine Xi.up (pc' := 13) (fun _ _ k => x_aload_n dX5_readProgram_12 rfl rfl k) ?_
  refine Xi.up (pc' := 14) (fun _ _ k => x_iconst dX5_readProgram_13 (show inR 0 from ⟨by decide, by decide⟩) k) ?_
  refine Xi.up (pc' := 17) (fun _ _ k => x_putIK hK4 lf5_36 rfl rfl (Or.inl rfl) dX5_readProgram_14 h0.1 k) ?_
  have hK5 := KW.sI hK4 5 5 0
  refine Xi.up (pc' := 18) (fun _ _ k => x_aload_n dX5_readProgram_17 rfl rfl k) ?_
  refine Xi.up (pc' := 19) (fun _ _ k => x_iconst dX5_readProgram_18 (show inR 1 from ⟨by decide, by decide⟩) k) ?_
  refine Xi.up (pc' := 22) (fun _ _ k => x_putIK hK5 lf5_39 rfl rfl (Or.inr (Or.inr rfl)) dX5_readProgram_19 h0.1 k) ?_
  have hK6 := KW.sI hK5 5 6 1
  refine Xi.up (pc' := 23) (fun _ _ k => x_aload_n dX5_readProgram_22 rfl rfl k) ?_
  refine Xi.up (pc' := 24) (fun _ _ k => x_iconst dX5_readProgram_23 (show inR 0 from ⟨by decide, by decide⟩) k) ?_
  refine Xi.up (pc' := 27) (fun _ _ k => x_putIK hK6 lf5_43 rfl rfl (Or.inr (Or.inl rfl)) dX5_readProgram_24 h0.1 k) ?_
  have hK7 := KW.sI hK6 5 7 0
  refine Xi.up (pc' := 28) (fun _ _ k => x_aload_n dX5_readProgram_27 rfl rfl k) ?_
  refine Xi.up (pc' := 29) (fun _ _ k => x_iconst dX5_readProgram_28 (show inR (-1) from ⟨by decide, by decide⟩) k) ?_
  obtain ⟨M8, hc10, hK9, h⟩ := h
  refine Xi.up (pc' := 32) (st' := []) (fun _ _ k => x_callVK (ci := 5) (as := [zi (-1)]) (st := []) hK7 k5_setBefore lm5_46 dX5_readProgram_29 rfl (by decide) (zs8 rfl) h0.1 ⟨_, _, rfl⟩ hc10 k) ?_
  refine Xi.up (pc' := 33) (fun _ _ k => x_iconst dX5_readProgram_32 (show inR 0 from ⟨by decide, by decide⟩) k) ?_
  refine Xi.up (pc' := 34) (L' := [some (zr 5), some (zi 0), none]) (fun _ _ k => x_istore_n dX5_readProgram_33 rfl (by decide) rfl k) ?_
  exact h
set_option maxHeartbeats 4000000 in
set_option maxRecDepth 20000 in
theorem B5_readProgram_34 {d : Nat} {K M : ZMem} {Q : Int → ZMem → Prop} (l1 : Int) (hK : KW K M) (h0 : ReaderAt K 5) (h : ((150 < l1 → (((mI M 5 7) = 0 → (Q (mI M 5 4) M)) ∧ (¬ ((mI M 5 7) = 0) → (Q (-1) M)))) ∧ (¬ (150 < l1) → (((mI M 5 7) ≠ 0 → (((mI M 5 7) = 0 → (Q (mI M 5 4) M)) ∧ (¬ ((mI M 5 7) = 0) → (Q (-1) M)))) ∧ (¬ ((mI M 5 7) ≠ 0) → (((mI M 5 6) = 0 → (Ci d q5_readBehind [zr 5] M (fun x2 M1 => KW K M1 ∧ ((x2 ≠ 0 → ((inR (l1 + 1)) ∧ Xi (d + 1) q5_readProgram 34 [some (zr 5), some (zi (l1 + 1)), none] [] M1 Q)) ∧ (¬ (x2 ≠ 0) → (Q (mI M1 5 4) M1)))))) ∧ (¬ ((mI M 5 6) = 0) → (Ci d q5_readStatement [zr 5] M (fun x7 M6 => KW K M6 ∧ ((x7 ≠ 0 → ((inR (l1 + 1)) ∧ Xi (d + 1) q5_readProgram 34 [some (zr 5), some (zi (l1 + 1)), none] [] M6 Q)) ∧ (¬ (x7 ≠ 0) → (Q (mI M6 5 4) M6)))))))))))) : Xi (d + 1) q5_readProgram 34 [some (zr 5), some (zi l1), none] [] M Q := by
  refine Xi.up (pc' := 35) (fun _ _ k => x_iload_n dX5_readProgram_34 rfl rfl k) ?_
  refine Xi.up (pc' := 38) (fun _ _ k => x_sipush dX5_readProgram_35 (show inR 150 from ⟨by decide, by decide⟩) (by decide) k) ?_
  refine Xi.br (tgt := 82) (pc' := 41) (150 < l1) (fun _ _ kt kf => x_icmp_gt dX5_readProgram_38 rfl kt kf) (fun c => ?_) (fun c => ?_)
  · have h := h.1 c
    refine Xi.up (pc' := 83) (fun _ _ k => x_aload_n dX5_readProgram_82 rfl rfl k) ?_
    refine Xi.up (pc' := 86) (fun _ _ k => x_getIK hK lf5_43 rfl dX5_readProgram_83 h0.1 k) ?_
    refine Xi.br (tgt := 93) (pc' := 89) ((mI M 5 7) = 0) (fun _ _ kt kf => x_if_eq dX5_readProgram_86 rfl kt kf) (fun c => ?_) (fun c => ?_)
    · have h := h.1 c
      refine Xi.up (pc' := 94) (fun _ _ k => x_aload_n dX5_readProgram_93 rfl rfl k) ?_
      refine Xi.up (pc' := 97) (fun _ _ k => x_getIK hK lf5_32 rfl dX5_readProgram_94 h0.1 k) ?_
      exact Xi.ret ⟨dX5_readProgram_97, Or.inl rfl⟩ h
    · have h := h.2 c
      refine Xi.up (pc' := 90) (fun _ _ k => x_iconst dX5_readProgram_89 (show inR (-1) from ⟨by decide, by decide⟩) k) ?_
      refine Xi.up (pc' := 97) (fun _ _ k => x_goto dX5_readProgram_90 rfl k) ?_
      exact Xi.ret ⟨dX5_readProgram_97, Or.inl rfl⟩ h
  · have h := h.2 c
    refine Xi.up (pc' := 42) (fun _ _ k => x_aload_n dX5_readProgram_41 rfl rfl k) ?_
    refine Xi.up (pc' := 45) (fun _ _ k => x_getIK hK lf5_43 rfl dX5_readProgram_42 h0.1 k) ?_
    refine Xi.br (tgt := 82) (pc' := 48) ((mI M 5 7) ≠ 0) (fun _ _ kt kf => x_if_ne dX5_readProgram_45 rfl kt kf) (fun c => ?_) (fun c => ?_)
    · have h := h.1 c
      refine Xi.up (pc' := 83) (fun _ _ k => x_aload_n dX5_readProgram_82 rfl rfl k) ?_
      refine Xi.up (pc' := 86) (fun _ _ k => x_getIK hK lf5_43 rfl dX5_readProgram_83 h0.1 k) ?_
      refine Xi.br (tgt := 93) (pc' := 89) ((mI M 5 7) = 0) (fun _ _ kt kf => x_if_eq dX5_readProgram_86 rfl kt kf) (fun c => ?_) (fun c => ?_)
      · have h := h.1 c
        refine Xi.up (pc' := 94) (fun _ _ k => x_aload_n dX5_readProgram_93 rfl rfl k) ?_
        refine Xi.up (pc' := 97) (fun _ _ k => x_getIK hK lf5_32 rfl dX5_readProgram_94 h0.1 k) ?_
        exact Xi.ret ⟨dX5_readProgram_97, Or.inl rfl⟩ h
      · have h := h.2 c
        refine Xi.up (pc' := 90) (fun _ _ k => x_iconst dX5_readProgram_89 (show inR (-1) from ⟨by decide, by decide⟩) k) ?_
        refine Xi.up (pc' := 97) (fun _ _ k => x_goto dX5_readProgram_90 rfl k) ?_
        exact Xi.ret ⟨dX5_readProgram_97, Or.inl rfl⟩ h
    · have h := h.2 c
      refine Xi.up (pc' := 49) (fun _ _ k => x_aload_n dX5_readProgram_48 rfl rfl k) ?_
      refine Xi.up (pc' := 52) (fun _ _ k => x_getIK hK lf5_39 rfl dX5_readProgram_49 h0.1 k) ?_
      refine Xi.br (tgt := 62) (pc' := 55) ((mI M 5 6) = 0) (fun _ _ kt kf => x_if_eq dX5_readProgram_52 rfl kt kf) (fun c => ?_) (fun c => ?_)
      · have h := h.1 c
        refine Xi.up (pc' := 63) (fun _ _ k => x_aload_n dX5_readProgram_62 rfl rfl k) ?_
        obtain ⟨x2, M1, hc4, hK3, h⟩ := h
        refine Xi.up (pc' := 66) (st' := [zi x2]) (fun _ _ k => x_callVK (ci := 5) (as := []) (st := []) hK k5_readBehind lm5_54 dX5_readProgram_63 rfl (by decide) (zs8 rfl) h0.1 ⟨_, _, rfl⟩ hc4 k) ?_
        refine Xi.up (pc' := 67) (L' := [some (zr 5), some (zi l1), some (zi x2)]) (fun _ _ k => x_istore_n dX5_readProgram_66 rfl (by decide) rfl k) ?_
        refine Xi.up (pc' := 68) (fun _ _ k => x_iload_n dX5_readProgram_67 rfl rfl k) ?_
        refine Xi.br (tgt := 76) (pc' := 71) (x2 ≠ 0) (fun _ _ kt kf => x_if_ne dX5_readProgram_68 rfl kt kf) (fun c => ?_) (fun c => ?_)
        · have h := h.1 c
          obtain ⟨g5, h⟩ := h
          refine Xi.up (pc' := 79) (L' := [some (zr 5), some (zi (l1 + 1)), some (zi x2)]) (fun _ _ k => x_iinc dX5_readProgram_76 rfl g5 (by decide) rfl k) ?_
          refine Xi.up (pc' := 34) (fun _ _ k => x_goto dX5_readProgram_79 rfl k) ?_
          exact Xi.up (fun _ _ k => x_less (L' := [some (zr 5), some (zi (l1 + 1)), none]) (⟨rfl, ⟨rfl, trivial⟩⟩) k) h
        · have h := h.2 c
          refine Xi.up (pc' := 72) (fun _ _ k => x_aload_n dX5_readProgram_71 rfl rfl k) ?_
          refine Xi.up (pc' := 75) (fun _ _ k => x_getIK hK3 lf5_32 rfl dX5_readProgram_72 h0.1 k) ?_
          exact Xi.ret ⟨dX5_readProgram_75, Or.inl rfl⟩ h
      · have h := h.2 c
        refine Xi.up (pc' := 56) (fun _ _ k => x_aload_n dX5_readProgram_55 rfl rfl k) ?_
        obtain ⟨x7, M6, hc9, hK8, h⟩ := h
        refine Xi.up (pc' := 59) (st' := [zi x7]) (fun _ _ k => x_callVK (ci := 5) (as := []) (st := []) hK k5_readStatement lm5_50 dX5_readProgram_56 rfl (by decide) (zs8 rfl) h0.1 ⟨_, _, rfl⟩ hc9 k) ?_
        refine Xi.up (pc' := 66) (fun _ _ k => x_goto dX5_readProgram_59 rfl k) ?_
        refine Xi.up (pc' := 67) (L' := [some (zr 5), some (zi l1), some (zi x7)]) (fun _ _ k => x_istore_n dX5_readProgram_66 rfl (by decide) rfl k) ?_
        refine Xi.up (pc' := 68) (fun _ _ k => x_iload_n dX5_readProgram_67 rfl rfl k) ?_
        refine Xi.br (tgt := 76) (pc' := 71) (x7 ≠ 0) (fun _ _ kt kf => x_if_ne dX5_readProgram_68 rfl kt kf) (fun c => ?_) (fun c => ?_)
        · have h := h.1 c
          obtain ⟨g10, h⟩ := h
          refine Xi.up (pc' := 79) (L' := [some (zr 5), some (zi (l1 + 1)), some (zi x7)]) (fun _ _ k => x_iinc dX5_readProgram_76 rfl g10 (by decide) rfl k) ?_
          refine Xi.up (pc' := 34) (fun _ _ k => x_goto dX5_readProgram_79 rfl k) ?_
          exact Xi.up (fun _ _ k => x_less (L' := [some (zr 5), some (zi (l1 + 1)), none]) (⟨rfl, ⟨rfl, trivial⟩⟩) k) h
        · have h := h.2 c
          refine Xi.up (pc' := 72) (fun _ _ k => x_aload_n dX5_readProgram_71 rfl rfl k) ?_
          refine Xi.up (pc' := 75) (fun _ _ k => x_getIK hK8 lf5_32 rfl dX5_readProgram_72 h0.1 k) ?_
          exact Xi.ret ⟨dX5_readProgram_75, Or.inl rfl⟩ h
set_option maxHeartbeats 4000000 in
set_option maxRecDepth 20000 in
theorem B5_readCost {d : Nat} {K M : ZMem} {Q : Int → ZMem → Prop}  (hK : KW K M) (h0 : ReaderAt K 5) (h : Cv d q4_clear [zr 8] M (fun M1 => KW K M1 ∧ Ci d q5_readFormula [zr 5, zr 21] (sI M1 5 4 0) (fun x6 M5 => KW K M5 ∧ ((x6 = 0 → (Q (mI M5 5 4) M5)) ∧ (¬ (x6 = 0) → (((mI M5 5 4) ≠ (mI M5 3 1) → (Q (mI M5 5 4) M5)) ∧ (¬ ((mI M5 5 4) ≠ (mI M5 3 1)) → (Q (-1) M5)))))))) : Ci (d + 1) q5_readCost [zr 5] M Q := by
  refine Ci.of rfl rfl (Nat.le_of_ble_eq_true rfl) (fun w hw x e => by subst e; simp at hw) (L := [some (zr 5), none]) rfl ?_
  refine Xi.up (pc' := 1) (fun _ _ k => x_aload_n dX5_readCost_0 rfl rfl k) ?_
  refine Xi.up (pc' := 4) (fun _ _ k => x_getRK hK lf5_25 rfl dX5_readCost_1 h0.1 h0.2.2.2.2.1 k) ?_
  obtain ⟨M1, hc3, hK2, h⟩ := h
  refine Xi.up (pc' := 7) (st' := []) (fun _ _ k => x_callVK (ci := 4) (as := []) (st := []) hK k4_clear lm5_29 dX5_readCost_4 rfl (by decide) (zs8 rfl) h0.2.2.2.2.2.2.2.2.1 ⟨_, _, rfl⟩ hc3 k) ?_
  refine Xi.up (pc' := 8) (fun _ _ k => x_aload_n dX5_readCost_7 rfl rfl k) ?_
  refine Xi.up (pc' := 9) (fun _ _ k => x_iconst dX5_readCost_8 (show inR 0 from ⟨by decide, by decide⟩) k) ?_
  refine Xi.up (pc' := 12) (fun _ _ k => x_putIK hK2 lf5_32 rfl rfl (Or.inl rfl) dX5_readCost_9 h0.1 k) ?_
  have hK4 := KW.sI hK2 5 4 0
  refine Xi.up (pc' := 13) (fun _ _ k => x_aload_n dX5_readCost_12 rfl rfl k) ?_
  refine Xi.up (pc' := 14) (fun _ _ k => x_aload_n dX5_readCost_13 rfl rfl k) ?_
  refine Xi.up (pc' := 17) (fun _ _ k => x_getRK hK4 lf5_25 rfl dX5_readCost_14 h0.1 h0.2.2.2.2.1 k) ?_
  refine Xi.up (pc' := 20) (fun _ _ k => x_getRK hK4 lf5_57 rfl dX5_readCost_17 h0.2.2.2.2.2.2.2.2.1 h0.2.2.2.2.2.2.2.2.2.2.2.2.2.2.2.2.2.2.1 k) ?_
  obtain ⟨x6, M5, hc8, hK7, h⟩ := h
  refine Xi.up (pc' := 23) (st' := [zi x6]) (fun _ _ k => x_callVK (ci := 5) (as := [zr 21]) (st := []) hK4 k5_readFormula lm5_61 dX5_readCost_20 rfl (by decide) (zs8 rfl) h0.1 ⟨_, _, rfl⟩ hc8 k) ?_
  refine Xi.up (pc' := 24) (L' := [some (zr 5), some (zi x6)]) (fun _ _ k => x_istore_n dX5_readCost_23 rfl (by decide) rfl k) ?_
  refine Xi.up (pc' := 25) (fun _ _ k => x_iload_n dX5_readCost_24 rfl rfl k) ?_
  refine Xi.br (tgt := 46) (pc' := 28) (x6 = 0) (fun _ _ kt kf => x_if_eq dX5_readCost_25 rfl kt kf) (fun c => ?_) (fun c => ?_)
  · have h := h.1 c
    refine Xi.up (pc' := 47) (fun _ _ k => x_aload_n dX5_readCost_46 rfl rfl k) ?_
    refine Xi.up (pc' := 50) (fun _ _ k => x_getIK hK7 lf5_32 rfl dX5_readCost_47 h0.1 k) ?_
    exact Xi.ret ⟨dX5_readCost_50, Or.inl rfl⟩ h
  · have h := h.2 c
    refine Xi.up (pc' := 29) (fun _ _ k => x_aload_n dX5_readCost_28 rfl rfl k) ?_
    refine Xi.up (pc' := 32) (fun _ _ k => x_getIK hK7 lf5_32 rfl dX5_readCost_29 h0.1 k) ?_
    refine Xi.up (pc' := 33) (fun _ _ k => x_aload_n dX5_readCost_32 rfl rfl k) ?_
    refine Xi.up (pc' := 36) (fun _ _ k => x_getRK hK7 lf5_9 rfl dX5_readCost_33 h0.1 h0.2.1 k) ?_
    refine Xi.up (pc' := 39) (fun _ _ k => x_getIK hK7 lf5_65 rfl dX5_readCost_36 h0.2.2.2.2.2.2.2.1.1 k) ?_
    refine Xi.br (tgt := 46) (pc' := 42) ((mI M5 5 4) ≠ (mI M5 3 1)) (fun _ _ kt kf => x_icmp_ne dX5_readCost_39 rfl kt kf) (fun c => ?_) (fun c => ?_)
    · have h := h.1 c
      refine Xi.up (pc' := 47) (fun _ _ k => x_aload_n dX5_readCost_46 rfl rfl k) ?_
      refine Xi.up (pc' := 50) (fun _ _ k => x_getIK hK7 lf5_32 rfl dX5_readCost_47 h0.1 k) ?_
      exact Xi.ret ⟨dX5_readCost_50, Or.inl rfl⟩ h
    · have h := h.2 c
      refine Xi.up (pc' := 43) (fun _ _ k => x_iconst dX5_readCost_42 (show inR (-1) from ⟨by decide, by decide⟩) k) ?_
      refine Xi.up (pc' := 50) (fun _ _ k => x_goto dX5_readCost_43 rfl k) ?_
      exact Xi.ret ⟨dX5_readCost_50, Or.inl rfl⟩ h
set_option maxHeartbeats 4000000 in
set_option maxRecDepth 20000 in
theorem B5_readStatement {d : Nat} {K M : ZMem} {Q : Int → ZMem → Prop}  (hK : KW K M) (h0 : ReaderAt K 5) (h : (((mI M 8 10) < 40 → (Ci d q7_at [zr 3, zi (mI M 5 4)] M (fun x2 M1 => KW K M1 ∧ (inR ((mI M1 5 4) + 1)) ∧ Ci d q7_at [zr 3, zi ((mI M1 5 4) + 1)] M1 (fun x7 M6 => KW K M6 ∧ ((x2 ≠ 40 → ((x2 ≠ 91 → ((x2 ≠ 126 → ((x2 ≠ 33 → ((x2 < 49 → (Ci d q5_isVariable [zi x2] M6 (fun x11 M10 => KW K M10 ∧ ((x11 = 0 → (Ci d q5_isVariable [zi x2] M10 (fun x15 M14 => KW K M14 ∧ ((x15 = 0 → (Ci d q5_readTest [zr 5] M14 (fun x19 M18 => KW K M18 ∧ (x19 = 0 ∨ x19 = 1) ∧ Q x19 M18))) ∧ (¬ (x15 = 0) → ((x7 ≠ 63 → (Ci d q5_readTest [zr 5] M14 (fun x24 M23 => KW K M23 ∧ (x24 = 0 ∨ x24 = 1) ∧ Q x24 M23))) ∧ (¬ (x7 ≠ 63) → ((inR ((mI M14 5 4) + 2)) ∧ (inR (x2 - 97)) ∧ Ci d q5_readChoose [zr 5, zi (x2 - 97)] (sI M14 5 4 ((mI M14 5 4) + 2)) (fun x32 M31 => KW K M31 ∧ (x32 = 0 ∨ x32 = 1) ∧ Q x32 M31))))))))) ∧ (¬ (x11 = 0) → ((x7 ≠ 58 → (Ci d q5_isVariable [zi x2] M10 (fun x37 M36 => KW K M36 ∧ ((x37 = 0 → (Ci d q5_readTest [zr 5] M36 (fun x41 M40 => KW K M40 ∧ (x41 = 0 ∨ x41 = 1) ∧ Q x41 M40))) ∧ (¬ (x37 = 0) → ((x7 ≠ 63 → (Ci d q5_readTest [zr 5] M36 (fun x46 M45 => KW K M45 ∧ (x46 = 0 ∨ x46 = 1) ∧ Q x46 M45))) ∧ (¬ (x7 ≠ 63) → ((inR ((mI M36 5 4) + 2)) ∧ (inR (x2 - 97)) ∧ Ci d q5_readChoose [zr 5, zi (x2 - 97)] (sI M36 5 4 ((mI M36 5 4) + 2)) (fun x54 M53 => KW K M53 ∧ (x54 = 0 ∨ x54 = 1) ∧ Q x54 M53))))))))) ∧ (¬ (x7 ≠ 58) → ((inR ((mI M10 5 4) + 2)) ∧ (inR (x2 - 97)) ∧ Ci d q5_addStatement [zr 5, zi 1, zi (x2 - 97)] (sI M10 5 4 ((mI M10 5 4) + 2)) (fun x62 M61 => KW K M61 ∧ Ci d q5_readFormula [zr 5, zr 17] M61 (fun x66 M65 => KW K M65 ∧ (x66 = 0 ∨ x66 = 1) ∧ Q x66 M65)))))))))) ∧ (¬ (x2 < 49) → ((57 < x2 → (Ci d q5_isVariable [zi x2] M6 (fun x71 M70 => KW K M70 ∧ ((x71 = 0 → (Ci d q5_isVariable [zi x2] M70 (fun x75 M74 => KW K M74 ∧ ((x75 = 0 → (Ci d q5_readTest [zr 5] M74 (fun x79 M78 => KW K M78 ∧ (x79 = 0 ∨ x79 = 1) ∧ Q x79 M78))) ∧ (¬ (x75 = 0) → ((x7 ≠ 63 → (Ci d q5_readTest [zr 5] M74 (fun x84 M83 => KW K M83 ∧ (x84 = 0 ∨ x84 = 1) ∧ Q x84 M83))) ∧ (¬ (x7 ≠ 63) → ((inR ((mI M74 5 4) + 2)) ∧ (inR (x2 - 97)) ∧ Ci d q5_readChoose [zr 5, zi (x2 - 97)] (sI M74 5 4 ((mI M74 5 4) + 2)) (fun x92 M91 => KW K M91 ∧ (x92 = 0 ∨ x92 = 1) ∧ Q x92 M91))))))))) ∧ (¬ (x71 = 0) → ((x7 ≠ 58 → (Ci d q5_isVariable [zi x2] M70 (fun x97 M96 => KW K M96 ∧ ((x97 = 0 → (Ci d q5_readTest [zr 5] M96 (fun x101 M100 => KW K M100 ∧ (x101 = 0 ∨ x101 = 1) ∧ Q x101 M100))) ∧ (¬ (x97 = 0) → ((x7 ≠ 63 → (Ci d q5_readTest [zr 5] M96 (fun x106 M105 => KW K M105 ∧ (x106 = 0 ∨ x106 = 1) ∧ Q x106 M105))) ∧ (¬ (x7 ≠ 63) → ((inR ((mI M96 5 4) + 2)) ∧ (inR (x2 - 97)) ∧ Ci d q5_readChoose [zr 5, zi (x2 - 97)] (sI M96 5 4 ((mI M96 5 4) + 2)) (fun x114 M113 => KW K M113 ∧ (x114 = 0 ∨ x114 = 1) ∧ Q x114 M113))))))))) ∧ (¬ (x7 ≠ 58) → ((inR ((mI M70 5 4) + 2)) ∧ (inR (x2 - 97)) ∧ Ci d q5_addStatement [zr 5, zi 1, zi (x2 - 97)] (sI M70 5 4 ((mI M70 5 4) + 2)) (fun x122 M121 => KW K M121 ∧ Ci d q5_readFormula [zr 5, zr 17] M121 (fun x126 M125 => KW K M125 ∧ (x126 = 0 ∨ x126 = 1) ∧ Q x126 M125)))))))))) ∧ (¬ (57 < x2) → ((x7 ≠ 42 → (Ci d q5_isVariable [zi x2] M6 (fun x131 M130 => KW K M130 ∧ ((x131 = 0 → (Ci d q5_isVariable [zi x2] M130 (fun x135 M134 => KW K M134 ∧ ((x135 = 0 → (Ci d q5_readTest [zr 5] M134 (fun x139 M138 => KW K M138 ∧ (x139 = 0 ∨ x139 = 1) ∧ Q x139 M138))) ∧ (¬ (x135 = 0) → ((x7 ≠ 63 → (Ci d q5_readTest [zr 5] M134 (fun x144 M143 => KW K M143 ∧ (x144 = 0 ∨ x144 = 1) ∧ Q x144 M143))) ∧ (¬ (x7 ≠ 63) → ((inR ((mI M134 5 4) + 2)) ∧ (inR (x2 - 97)) ∧ Ci d q5_readChoose [zr 5, zi (x2 - 97)] (sI M134 5 4 ((mI M134 5 4) + 2)) (fun x152 M151 => KW K M151 ∧ (x152 = 0 ∨ x152 = 1) ∧ Q x152 M151))))))))) ∧ (¬ (x131 = 0) → ((x7 ≠ 58 → (Ci d q5_isVariable [zi x2] M130 (fun x157 M156 => KW K M156 ∧ ((x157 = 0 → (Ci d q5_readTest [zr 5] M156 (fun x161 M160 => KW K M160 ∧ (x161 = 0 ∨ x161 = 1) ∧ Q x161 M160))) ∧ (¬ (x157 = 0) → ((x7 ≠ 63 → (Ci d q5_readTest [zr 5] M156 (fun x166 M165 => KW K M165 ∧ (x166 = 0 ∨ x166 = 1) ∧ Q x166 M165))) ∧ (¬ (x7 ≠ 63) → ((inR ((mI M156 5 4) + 2)) ∧ (inR (x2 - 97)) ∧ Ci d q5_readChoose [zr 5, zi (x2 - 97)] (sI M156 5 4 ((mI M156 5 4) + 2)) (fun x174 M173 => KW K M173 ∧ (x174 = 0 ∨ x174 = 1) ∧ Q x174 M173))))))))) ∧ (¬ (x7 ≠ 58) → ((inR ((mI M130 5 4) + 2)) ∧ (inR (x2 - 97)) ∧ Ci d q5_addStatement [zr 5, zi 1, zi (x2 - 97)] (sI M130 5 4 ((mI M130 5 4) + 2)) (fun x182 M181 => KW K M181 ∧ Ci d q5_readFormula [zr 5, zr 17] M181 (fun x186 M185 => KW K M185 ∧ (x186 = 0 ∨ x186 = 1) ∧ Q x186 M185)))))))))) ∧ (¬ (x7 ≠ 42) → ((inR ((mI M6 5 4) + 2)) ∧ Ci d q7_at [zr 3, zi ((mI M6 5 4) + 2)] M6 (fun x192 M191 => KW K M191 ∧ ((x192 ≠ 40 → (Ci d q5_isVariable [zi x2] M191 (fun x196 M195 => KW K M195 ∧ ((x196 = 0 → (Ci d q5_isVariable [zi x2] M195 (fun x200 M199 => KW K M199 ∧ ((x200 = 0 → (Ci d q5_readTest [zr 5] M199 (fun x204 M203 => KW K M203 ∧ (x204 = 0 ∨ x204 = 1) ∧ Q x204 M203))) ∧ (¬ (x200 = 0) → ((x7 ≠ 63 → (Ci d q5_readTest [zr 5] M199 (fun x209 M208 => KW K M208 ∧ (x209 = 0 ∨ x209 = 1) ∧ Q x209 M208))) ∧ (¬ (x7 ≠ 63) → ((inR ((mI M199 5 4) + 2)) ∧ (inR (x2 - 97)) ∧ Ci d q5_readChoose [zr 5, zi (x2 - 97)] (sI M199 5 4 ((mI M199 5 4) + 2)) (fun x217 M216 => KW K M216 ∧ (x217 = 0 ∨ x217 = 1) ∧ Q x217 M216))))))))) ∧ (¬ (x196 = 0) → ((x7 ≠ 58 → (Ci d q5_isVariable [zi x2] M195 (fun x222 M221 => KW K M221 ∧ ((x222 = 0 → (Ci d q5_readTest [zr 5] M221 (fun x226 M225 => KW K M225 ∧ (x226 = 0 ∨ x226 = 1) ∧ Q x226 M225))) ∧ (¬ (x222 = 0) → ((x7 ≠ 63 → (Ci d q5_readTest [zr 5] M221 (fun x231 M230 => KW K M230 ∧ (x231 = 0 ∨ x231 = 1) ∧ Q x231 M230))) ∧ (¬ (x7 ≠ 63) → ((inR ((mI M221 5 4) + 2)) ∧ (inR (x2 - 97)) ∧ Ci d q5_readChoose [zr 5, zi (x2 - 97)] (sI M221 5 4 ((mI M221 5 4) + 2)) (fun x239 M238 => KW K M238 ∧ (x239 = 0 ∨ x239 = 1) ∧ Q x239 M238))))))))) ∧ (¬ (x7 ≠ 58) → ((inR ((mI M195 5 4) + 2)) ∧ (inR (x2 - 97)) ∧ Ci d q5_addStatement [zr 5, zi 1, zi (x2 - 97)] (sI M195 5 4 ((mI M195 5 4) + 2)) (fun x247 M246 => KW K M246 ∧ Ci d q5_readFormula [zr 5, zr 17] M246 (fun x251 M250 => KW K M250 ∧ (x251 = 0 ∨ x251 = 1) ∧ Q x251 M250)))))))))) ∧ (¬ (x192 ≠ 40) → ((inR ((mI M191 5 4) + 2)) ∧ (inR (x2 - 48)) ∧ Ci d q5_addStatement [zr 5, zi 9, zi (x2 - 48)] (sI M191 5 4 ((mI M191 5 4) + 2)) (fun x259 M258 => KW K M258 ∧ Ci d q5_openBracket [zr 5, zi x259] M258 (fun x263 M262 => KW K M262 ∧ (x263 = 0 ∨ x263 = 1) ∧ Q x263 M262)))))))))))))) ∧ (¬ (x2 ≠ 33) → (Ci d q5_addStatement [zr 5, zi 8, zi 0] M6 (fun x268 M267 => KW K M267 ∧ (inR ((mI M267 5 4) + 1)) ∧ Q 1 (sI M267 5 4 ((mI M267 5 4) + 1))))))) ∧ (¬ (x2 ≠ 126) → ((inR ((mI M6 5 4) + 1)) ∧ Ci d q7_at [zr 3, zi (mI (sI M6 5 4 ((mI M6 5 4) + 1)) 5 4)] (sI M6 5 4 ((mI M6 5 4) + 1)) (fun x276 M275 => KW K M275 ∧ ((x276 ≠ 91 → (Q 0 M275)) ∧ (¬ (x276 ≠ 91) → (Ci d q5_addStatement [zr 5, zi 7, zi 0] M275 (fun x280 M279 => KW K M279 ∧ Ci d q5_openBracket [zr 5, zi x280] M279 (fun x284 M283 => KW K M283 ∧ ((x284 = 0 → (Q 0 M283)) ∧ (¬ (x284 = 0) → (Q 1 M283))))))))))))) ∧ (¬ (x2 ≠ 91) → (Ci d q5_addStatement [zr 5, zi 6, zi 0] M6 (fun x288 M287 => KW K M287 ∧ Ci d q5_openBracket [zr 5, zi x288] M287 (fun x292 M291 => KW K M291 ∧ (x292 = 0 ∨ x292 = 1) ∧ Q x292 M291)))))) ∧ (¬ (x2 ≠ 40) → (Ci d q5_addStatement [zr 5, zi 5, zi 0] M6 (fun x297 M296 => KW K M296 ∧ Ci d q5_openBracket [zr 5, zi x297] M296 (fun x301 M300 => KW K M300 ∧ (x301 = 0 ∨ x301 = 1) ∧ Q x301 M300))))))))) ∧ (¬ ((mI M 8 10) < 40) → (Q 0 M)))) : Ci (d + 1) q5_readStatement [zr 5] M Q := by
  refine Ci.of rfl rfl (Nat.le_of_ble_eq_true rfl) (fun w hw x e => by subst e; simp at hw) (L := [some (zr 5), none, none]) rfl ?_
  refine Xi.up (pc' := 1) (fun _ _ k => x_aload_n dX5_readStatement_0 rfl rfl k) ?_
  refine Xi.up (pc' := 4) (fun _ _ k => x_getRK hK lf5_25 rfl dX5_readStatement_1 h0.1 h0.2.2.2.2.1 k) ?_
  refine Xi.up (pc' := 7) (fun _ _ k => x_getIK hK lf5_70 rfl dX5_readStatement_4 h0.2.2.2.2.2.2.2.2.1 k) ?_
  refine Xi.up (pc' := 9) (fun _ _ k => x_bipush dX5_readStatement_7 (show inR 40 from ⟨by decide, by decide⟩) (by decide) k) ?_
  refine Xi.br (tgt := 14) (pc' := 12) ((mI M 8 10) < 40) (fun _ _ kt kf => x_icmp_lt dX5_readStatement_9 rfl kt kf) (fun c => ?_) (fun c => ?_)
  · have h := h.1 c
    refine Xi.up (pc' := 15) (fun _ _ k => x_aload_n dX5_readStatement_14 rfl rfl k) ?_
    refine Xi.up (pc' := 18) (fun _ _ k => x_getRK hK lf5_9 rfl dX5_readStatement_15 h0.1 h0.2.1 k) ?_
    refine Xi.up (pc' := 19) (fun _ _ k => x_aload_n dX5_readStatement_18 rfl rfl k) ?_
    refine Xi.up (pc' := 22) (fun _ _ k => x_getIK hK lf5_32 rfl dX5_readStatement_19 h0.1 k) ?_
    obtain ⟨x2, M1, hc4, hK3, h⟩ := h
    refine Xi.up (pc' := 25) (st' := [zi x2]) (fun _ _ k => x_callVK (ci := 7) (as := [zi (mI M 5 4)]) (st := []) hK k7_at lm5_71 dX5_readStatement_22 rfl (by decide) (zs8 rfl) h0.2.2.2.2.2.2.2.1.1 ⟨_, _, rfl⟩ hc4 k) ?_
    refine Xi.up (pc' := 26) (L' := [some (zr 5), some (zi x2), none]) (fun _ _ k => x_istore_n dX5_readStatement_25 rfl (by decide) rfl k) ?_
    refine Xi.up (pc' := 27) (fun _ _ k => x_aload_n dX5_readStatement_26 rfl rfl k) ?_
    refine Xi.up (pc' := 30) (fun _ _ k => x_getRK hK3 lf5_9 rfl dX5_readStatement_27 h0.1 h0.2.1 k) ?_
    refine Xi.up (pc' := 31) (fun _ _ k => x_aload_n dX5_readStatement_30 rfl rfl k) ?_
    refine Xi.up (pc' := 34) (fun _ _ k => x_getIK hK3 lf5_32 rfl dX5_readStatement_31 h0.1 k) ?_
    refine Xi.up (pc' := 35) (fun _ _ k => x_iconst dX5_readStatement_34 (show inR 1 from ⟨by decide, by decide⟩) k) ?_
    obtain ⟨g5, h⟩ := h
    refine Xi.up (pc' := 36) (fun _ _ k => x_iadd dX5_readStatement_35 g5 k) ?_
    obtain ⟨x7, M6, hc9, hK8, h⟩ := h
    refine Xi.up (pc' := 39) (st' := [zi x7]) (fun _ _ k => x_callVK (ci := 7) (as := [zi ((mI M1 5 4) + 1)]) (st := []) hK3 k7_at lm5_71 dX5_readStatement_36 rfl (by decide) (zs8 rfl) h0.2.2.2.2.2.2.2.1.1 ⟨_, _, rfl⟩ hc9 k) ?_
    refine Xi.up (pc' := 40) (L' := [some (zr 5), some (zi x2), some (zi x7)]) (fun _ _ k => x_istore_n dX5_readStatement_39 rfl (by decide) rfl k) ?_
    refine Xi.up (pc' := 41) (fun _ _ k => x_iload_n dX5_readStatement_40 rfl rfl k) ?_
    refine Xi.up (pc' := 43) (fun _ _ k => x_bipush dX5_readStatement_41 (show inR 40 from ⟨by decide, by decide⟩) (by decide) k) ?_
    refine Xi.br (tgt := 57) (pc' := 46) (x2 ≠ 40) (fun _ _ kt kf => x_icmp_ne dX5_readStatement_43 rfl kt kf) (fun c => ?_) (fun c => ?_)
    · have h := h.1 c
      refine Xi.up (pc' := 58) (fun _ _ k => x_iload_n dX5_readStatement_57 rfl rfl k) ?_
      refine Xi.up (pc' := 60) (fun _ _ k => x_bipush dX5_readStatement_58 (show inR 91 from ⟨by decide, by decide⟩) (by decide) k) ?_
      refine Xi.br (tgt := 75) (pc' := 63) (x2 ≠ 91) (fun _ _ kt kf => x_icmp_ne dX5_readStatement_60 rfl kt kf) (fun c => ?_) (fun c => ?_)
      · have h := h.1 c
        refine Xi.up (pc' := 76) (fun _ _ k => x_iload_n dX5_readStatement_75 rfl rfl k) ?_
        refine Xi.up (pc' := 78) (fun _ _ k => x_bipush dX5_readStatement_76 (show inR 126 from ⟨by decide, by decide⟩) (by decide) k) ?_
        refine Xi.br (tgt := 127) (pc' := 81) (x2 ≠ 126) (fun _ _ kt kf => x_icmp_ne dX5_readStatement_78 rfl kt kf) (fun c => ?_) (fun c => ?_)
        · have h := h.1 c
          refine Xi.up (pc' := 128) (fun _ _ k => x_iload_n dX5_readStatement_127 rfl rfl k) ?_
          refine Xi.up (pc' := 130) (fun _ _ k => x_bipush dX5_readStatement_128 (show inR 33 from ⟨by decide, by decide⟩) (by decide) k) ?_
          refine Xi.br (tgt := 153) (pc' := 133) (x2 ≠ 33) (fun _ _ kt kf => x_icmp_ne dX5_readStatement_130 rfl kt kf) (fun c => ?_) (fun c => ?_)
          · have h := h.1 c
            refine Xi.up (pc' := 154) (fun _ _ k => x_iload_n dX5_readStatement_153 rfl rfl k) ?_
            refine Xi.up (pc' := 156) (fun _ _ k => x_bipush dX5_readStatement_154 (show inR 49 from ⟨by decide, by decide⟩) (by decide) k) ?_
            refine Xi.br (tgt := 214) (pc' := 159) (x2 < 49) (fun _ _ kt kf => x_icmp_lt dX5_readStatement_156 rfl kt kf) (fun c => ?_) (fun c => ?_)
            · have h := h.1 c
              refine Xi.up (pc' := 215) (fun _ _ k => x_iload_n dX5_readStatement_214 rfl rfl k) ?_
              obtain ⟨x11, M10, hc13, hK12, h⟩ := h
              refine Xi.up (pc' := 218) (st' := [zi x11]) (fun _ _ k => x_callS (as := [zi x2]) (st := []) k5_isVariable lm5_83 dX5_readStatement_215 rfl (by decide) (zs8 rfl) hc13 k) ?_
              refine Xi.br (tgt := 259) (pc' := 221) (x11 = 0) (fun _ _ kt kf => x_if_eq dX5_readStatement_218 rfl kt kf) (fun c => ?_) (fun c => ?_)
              · have h := h.1 c
                refine Xi.up (pc' := 260) (fun _ _ k => x_iload_n dX5_readStatement_259 rfl rfl k) ?_
                obtain ⟨x15, M14, hc17, hK16, h⟩ := h
                refine Xi.up (pc' := 263) (st' := [zi x15]) (fun _ _ k => x_callS (as := [zi x2]) (st := []) k5_isVariable lm5_83 dX5_readStatement_260 rfl (by decide) (zs8 rfl) hc17 k) ?_
                refine Xi.br (tgt := 291) (pc' := 266) (x15 = 0) (fun _ _ kt kf => x_if_eq dX5_readStatement_263 rfl kt kf) (fun c => ?_) (fun c => ?_)
                · have h := h.1 c
                  refine Xi.up (pc' := 292) (fun _ _ k => x_aload_n dX5_readStatement_291 rfl rfl k) ?_
                  obtain ⟨x19, M18, hc21, hK20, h⟩ := h
                  refine Xi.up (pc' := 295) (st' := [zi x19]) (fun _ _ k => x_callVK (ci := 5) (as := []) (st := []) hK16 k5_readTest lm5_92 dX5_readStatement_292 rfl (by decide) (zs8 rfl) h0.1 ⟨_, _, rfl⟩ hc21 k) ?_
                  obtain ⟨g22, h⟩ := h
                  exact Xi.ret ⟨dX5_readStatement_295, Or.inr ⟨rfl, g22⟩⟩ h
                · have h := h.2 c
                  refine Xi.up (pc' := 267) (fun _ _ k => x_iload_n dX5_readStatement_266 rfl rfl k) ?_
                  refine Xi.up (pc' := 269) (fun _ _ k => x_bipush dX5_readStatement_267 (show inR 63 from ⟨by decide, by decide⟩) (by decide) k) ?_
                  refine Xi.br (tgt := 291) (pc' := 272) (x7 ≠ 63) (fun _ _ kt kf => x_icmp_ne dX5_readStatement_269 rfl kt kf) (fun c => ?_) (fun c => ?_)
                  · have h := h.1 c
                    refine Xi.up (pc' := 292) (fun _ _ k => x_aload_n dX5_readStatement_291 rfl rfl k) ?_
                    obtain ⟨x24, M23, hc26, hK25, h⟩ := h
                    refine Xi.up (pc' := 295) (st' := [zi x24]) (fun _ _ k => x_callVK (ci := 5) (as := []) (st := []) hK16 k5_readTest lm5_92 dX5_readStatement_292 rfl (by decide) (zs8 rfl) h0.1 ⟨_, _, rfl⟩ hc26 k) ?_
                    obtain ⟨g27, h⟩ := h
                    exact Xi.ret ⟨dX5_readStatement_295, Or.inr ⟨rfl, g27⟩⟩ h
                  · have h := h.2 c
                    refine Xi.up (pc' := 273) (fun _ _ k => x_aload_n dX5_readStatement_272 rfl rfl k) ?_
                    refine Xi.up (pc' := 274) (fun _ _ k => x_dupR dX5_readStatement_273 k) ?_
                    refine Xi.up (pc' := 277) (fun _ _ k => x_getIK hK16 lf5_32 rfl dX5_readStatement_274 h0.1 k) ?_
                    refine Xi.up (pc' := 278) (fun _ _ k => x_iconst dX5_readStatement_277 (show inR 2 from ⟨by decide, by decide⟩) k) ?_
                    obtain ⟨g28, h⟩ := h
                    refine Xi.up (pc' := 279) (fun _ _ k => x_iadd dX5_readStatement_278 g28 k) ?_
                    refine Xi.up (pc' := 282) (fun _ _ k => x_putIK hK16 lf5_32 rfl rfl (Or.inl rfl) dX5_readStatement_279 h0.1 k) ?_
                    have hK29 := KW.sI hK16 5 4 ((mI M14 5 4) + 2)
                    refine Xi.up (pc' := 283) (fun _ _ k => x_aload_n dX5_readStatement_282 rfl rfl k) ?_
                    refine Xi.up (pc' := 284) (fun _ _ k => x_iload_n dX5_readStatement_283 rfl rfl k) ?_
                    refine Xi.up (pc' := 286) (fun _ _ k => x_bipush dX5_readStatement_284 (show inR 97 from ⟨by decide, by decide⟩) (by decide) k) ?_
                    obtain ⟨g30, h⟩ := h
                    refine Xi.up (pc' := 287) (fun _ _ k => x_isub dX5_readStatement_286 g30 k) ?_
                    obtain ⟨x32, M31, hc34, hK33, h⟩ := h
                    refine Xi.up (pc' := 290) (st' := [zi x32]) (fun _ _ k => x_callVK (ci := 5) (as := [zi (x2 - 97)]) (st := []) hK29 k5_readChoose lm5_89 dX5_readStatement_287 rfl (by decide) (zs8 rfl) h0.1 ⟨_, _, rfl⟩ hc34 k) ?_
                    obtain ⟨g35, h⟩ := h
                    exact Xi.ret ⟨dX5_readStatement_290, Or.inr ⟨rfl, g35⟩⟩ h
              · have h := h.2 c
                refine Xi.up (pc' := 222) (fun _ _ k => x_iload_n dX5_readStatement_221 rfl rfl k) ?_
                refine Xi.up (pc' := 224) (fun _ _ k => x_bipush dX5_readStatement_222 (show inR 58 from ⟨by decide, by decide⟩) (by decide) k) ?_
                refine Xi.br (tgt := 259) (pc' := 227) (x7 ≠ 58) (fun _ _ kt kf => x_icmp_ne dX5_readStatement_224 rfl kt kf) (fun c => ?_) (fun c => ?_)
                · have h := h.1 c
                  refine Xi.up (pc' := 260) (fun _ _ k => x_iload_n dX5_readStatement_259 rfl rfl k) ?_
                  obtain ⟨x37, M36, hc39, hK38, h⟩ := h
                  refine Xi.up (pc' := 263) (st' := [zi x37]) (fun _ _ k => x_callS (as := [zi x2]) (st := []) k5_isVariable lm5_83 dX5_readStatement_260 rfl (by decide) (zs8 rfl) hc39 k) ?_
                  refine Xi.br (tgt := 291) (pc' := 266) (x37 = 0) (fun _ _ kt kf => x_if_eq dX5_readStatement_263 rfl kt kf) (fun c => ?_) (fun c => ?_)
                  · have h := h.1 c
                    refine Xi.up (pc' := 292) (fun _ _ k => x_aload_n dX5_readStatement_291 rfl rfl k) ?_
                    obtain ⟨x41, M40, hc43, hK42, h⟩ := h
                    refine Xi.up (pc' := 295) (st' := [zi x41]) (fun _ _ k => x_callVK (ci := 5) (as := []) (st := []) hK38 k5_readTest lm5_92 dX5_readStatement_292 rfl (by decide) (zs8 rfl) h0.1 ⟨_, _, rfl⟩ hc43 k) ?_
                    obtain ⟨g44, h⟩ := h
                    exact Xi.ret ⟨dX5_readStatement_295, Or.inr ⟨rfl, g44⟩⟩ h
                  · have h := h.2 c
                    refine Xi.up (pc' := 267) (fun _ _ k => x_iload_n dX5_readStatement_266 rfl rfl k) ?_
                    refine Xi.up (pc' := 269) (fun _ _ k => x_bipush dX5_readStatement_267 (show inR 63 from ⟨by decide, by decide⟩) (by decide) k) ?_
                    refine Xi.br (tgt := 291) (pc' := 272) (x7 ≠ 63) (fun _ _ kt kf => x_icmp_ne dX5_readStatement_269 rfl kt kf) (fun c => ?_) (fun c => ?_)
                    · have h := h.1 c
                      refine Xi.up (pc' := 292) (fun _ _ k => x_aload_n dX5_readStatement_291 rfl rfl k) ?_
                      obtain ⟨x46, M45, hc48, hK47, h⟩ := h
                      refine Xi.up (pc' := 295) (st' := [zi x46]) (fun _ _ k => x_callVK (ci := 5) (as := []) (st := []) hK38 k5_readTest lm5_92 dX5_readStatement_292 rfl (by decide) (zs8 rfl) h0.1 ⟨_, _, rfl⟩ hc48 k) ?_
                      obtain ⟨g49, h⟩ := h
                      exact Xi.ret ⟨dX5_readStatement_295, Or.inr ⟨rfl, g49⟩⟩ h
                    · have h := h.2 c
                      refine Xi.up (pc' := 273) (fun _ _ k => x_aload_n dX5_readStatement_272 rfl rfl k) ?_
                      refine Xi.up (pc' := 274) (fun _ _ k => x_dupR dX5_readStatement_273 k) ?_
                      refine Xi.up (pc' := 277) (fun _ _ k => x_getIK hK38 lf5_32 rfl dX5_readStatement_274 h0.1 k) ?_
                      refine Xi.up (pc' := 278) (fun _ _ k => x_iconst dX5_readStatement_277 (show inR 2 from ⟨by decide, by decide⟩) k) ?_
                      obtain ⟨g50, h⟩ := h
                      refine Xi.up (pc' := 279) (fun _ _ k => x_iadd dX5_readStatement_278 g50 k) ?_
                      refine Xi.up (pc' := 282) (fun _ _ k => x_putIK hK38 lf5_32 rfl rfl (Or.inl rfl) dX5_readStatement_279 h0.1 k) ?_
                      have hK51 := KW.sI hK38 5 4 ((mI M36 5 4) + 2)
                      refine Xi.up (pc' := 283) (fun _ _ k => x_aload_n dX5_readStatement_282 rfl rfl k) ?_
                      refine Xi.up (pc' := 284) (fun _ _ k => x_iload_n dX5_readStatement_283 rfl rfl k) ?_
                      refine Xi.up (pc' := 286) (fun _ _ k => x_bipush dX5_readStatement_284 (show inR 97 from ⟨by decide, by decide⟩) (by decide) k) ?_
                      obtain ⟨g52, h⟩ := h
                      refine Xi.up (pc' := 287) (fun _ _ k => x_isub dX5_readStatement_286 g52 k) ?_
                      obtain ⟨x54, M53, hc56, hK55, h⟩ := h
                      refine Xi.up (pc' := 290) (st' := [zi x54]) (fun _ _ k => x_callVK (ci := 5) (as := [zi (x2 - 97)]) (st := []) hK51 k5_readChoose lm5_89 dX5_readStatement_287 rfl (by decide) (zs8 rfl) h0.1 ⟨_, _, rfl⟩ hc56 k) ?_
                      obtain ⟨g57, h⟩ := h
                      exact Xi.ret ⟨dX5_readStatement_290, Or.inr ⟨rfl, g57⟩⟩ h
                · have h := h.2 c
                  refine Xi.up (pc' := 228) (fun _ _ k => x_aload_n dX5_readStatement_227 rfl rfl k) ?_
                  refine Xi.up (pc' := 229) (fun _ _ k => x_dupR dX5_readStatement_228 k) ?_
                  refine Xi.up (pc' := 232) (fun _ _ k => x_getIK hK12 lf5_32 rfl dX5_readStatement_229 h0.1 k) ?_
                  refine Xi.up (pc' := 233) (fun _ _ k => x_iconst dX5_readStatement_232 (show inR 2 from ⟨by decide, by decide⟩) k) ?_
                  obtain ⟨g58, h⟩ := h
                  refine Xi.up (pc' := 234) (fun _ _ k => x_iadd dX5_readStatement_233 g58 k) ?_
                  refine Xi.up (pc' := 237) (fun _ _ k => x_putIK hK12 lf5_32 rfl rfl (Or.inl rfl) dX5_readStatement_234 h0.1 k) ?_
                  have hK59 := KW.sI hK12 5 4 ((mI M10 5 4) + 2)
                  refine Xi.up (pc' := 238) (fun _ _ k => x_aload_n dX5_readStatement_237 rfl rfl k) ?_
                  refine Xi.up (pc' := 239) (fun _ _ k => x_iconst dX5_readStatement_238 (show inR 1 from ⟨by decide, by decide⟩) k) ?_
                  refine Xi.up (pc' := 240) (fun _ _ k => x_iload_n dX5_readStatement_239 rfl rfl k) ?_
                  refine Xi.up (pc' := 242) (fun _ _ k => x_bipush dX5_readStatement_240 (show inR 97 from ⟨by decide, by decide⟩) (by decide) k) ?_
                  obtain ⟨g60, h⟩ := h
                  refine Xi.up (pc' := 243) (fun _ _ k => x_isub dX5_readStatement_242 g60 k) ?_
                  obtain ⟨x62, M61, hc64, hK63, h⟩ := h
                  refine Xi.up (pc' := 246) (st' := [zi x62]) (fun _ _ k => x_callVK (ci := 5) (as := [zi 1, zi (x2 - 97)]) (st := []) hK59 k5_addStatement lm5_75 dX5_readStatement_243 rfl (by decide) (zs8 rfl) h0.1 ⟨_, _, rfl⟩ hc64 k) ?_
                  refine Xi.up (pc' := 247) (fun _ _ k => x_popI dX5_readStatement_246 k) ?_
                  refine Xi.up (pc' := 248) (fun _ _ k => x_aload_n dX5_readStatement_247 rfl rfl k) ?_
                  refine Xi.up (pc' := 249) (fun _ _ k => x_aload_n dX5_readStatement_248 rfl rfl k) ?_
                  refine Xi.up (pc' := 252) (fun _ _ k => x_getRK hK63 lf5_25 rfl dX5_readStatement_249 h0.1 h0.2.2.2.2.1 k) ?_
                  refine Xi.up (pc' := 255) (fun _ _ k => x_getRK hK63 lf5_86 rfl dX5_readStatement_252 h0.2.2.2.2.2.2.2.2.1 h0.2.2.2.2.2.2.2.2.2.2.2.2.2.2.2.2.2.1 k) ?_
                  obtain ⟨x66, M65, hc68, hK67, h⟩ := h
                  refine Xi.up (pc' := 258) (st' := [zi x66]) (fun _ _ k => x_callVK (ci := 5) (as := [zr 17]) (st := []) hK63 k5_readFormula lm5_61 dX5_readStatement_255 rfl (by decide) (zs8 rfl) h0.1 ⟨_, _, rfl⟩ hc68 k) ?_
                  obtain ⟨g69, h⟩ := h
                  exact Xi.ret ⟨dX5_readStatement_258, Or.inr ⟨rfl, g69⟩⟩ h
            · have h := h.2 c
              refine Xi.up (pc' := 160) (fun _ _ k => x_iload_n dX5_readStatement_159 rfl rfl k) ?_
              refine Xi.up (pc' := 162) (fun _ _ k => x_bipush dX5_readStatement_160 (show inR 57 from ⟨by decide, by decide⟩) (by decide) k) ?_
              refine Xi.br (tgt := 214) (pc' := 165) (57 < x2) (fun _ _ kt kf => x_icmp_gt dX5_readStatement_162 rfl kt kf) (fun c => ?_) (fun c => ?_)
              · have h := h.1 c
                refine Xi.up (pc' := 215) (fun _ _ k => x_iload_n dX5_readStatement_214 rfl rfl k) ?_
                obtain ⟨x71, M70, hc73, hK72, h⟩ := h
                refine Xi.up (pc' := 218) (st' := [zi x71]) (fun _ _ k => x_callS (as := [zi x2]) (st := []) k5_isVariable lm5_83 dX5_readStatement_215 rfl (by decide) (zs8 rfl) hc73 k) ?_
                refine Xi.br (tgt := 259) (pc' := 221) (x71 = 0) (fun _ _ kt kf => x_if_eq dX5_readStatement_218 rfl kt kf) (fun c => ?_) (fun c => ?_)
                · have h := h.1 c
                  refine Xi.up (pc' := 260) (fun _ _ k => x_iload_n dX5_readStatement_259 rfl rfl k) ?_
                  obtain ⟨x75, M74, hc77, hK76, h⟩ := h
                  refine Xi.up (pc' := 263) (st' := [zi x75]) (fun _ _ k => x_callS (as := [zi x2]) (st := []) k5_isVariable lm5_83 dX5_readStatement_260 rfl (by decide) (zs8 rfl) hc77 k) ?_
                  refine Xi.br (tgt := 291) (pc' := 266) (x75 = 0) (fun _ _ kt kf => x_if_eq dX5_readStatement_263 rfl kt kf) (fun c => ?_) (fun c => ?_)
                  · have h := h.1 c
                    refine Xi.up (pc' := 292) (fun _ _ k => x_aload_n dX5_readStatement_291 rfl rfl k) ?_
                    obtain ⟨x79, M78, hc81, hK80, h⟩ := h
                    refine Xi.up (pc' := 295) (st' := [zi x79]) (fun _ _ k => x_callVK (ci := 5) (as := []) (st := []) hK76 k5_readTest lm5_92 dX5_readStatement_292 rfl (by decide) (zs8 rfl) h0.1 ⟨_, _, rfl⟩ hc81 k) ?_
                    obtain ⟨g82, h⟩ := h
                    exact Xi.ret ⟨dX5_readStatement_295, Or.inr ⟨rfl, g82⟩⟩ h
                  · have h := h.2 c
                    refine Xi.up (pc' := 267) (fun _ _ k => x_iload_n dX5_readStatement_266 rfl rfl k) ?_
                    refine Xi.up (pc' := 269) (fun _ _ k => x_bipush dX5_readStatement_267 (show inR 63 from ⟨by decide, by decide⟩) (by decide) k) ?_
                    refine Xi.br (tgt := 291) (pc' := 272) (x7 ≠ 63) (fun _ _ kt kf => x_icmp_ne dX5_readStatement_269 rfl kt kf) (fun c => ?_) (fun c => ?_)
                    · have h := h.1 c
                      refine Xi.up (pc' := 292) (fun _ _ k => x_aload_n dX5_readStatement_291 rfl rfl k) ?_
                      obtain ⟨x84, M83, hc86, hK85, h⟩ := h
                      refine Xi.up (pc' := 295) (st' := [zi x84]) (fun _ _ k => x_callVK (ci := 5) (as := []) (st := []) hK76 k5_readTest lm5_92 dX5_readStatement_292 rfl (by decide) (zs8 rfl) h0.1 ⟨_, _, rfl⟩ hc86 k) ?_
                      obtain ⟨g87, h⟩ := h
                      exact Xi.ret ⟨dX5_readStatement_295, Or.inr ⟨rfl, g87⟩⟩ h
                    · have h := h.2 c
                      refine Xi.up (pc' := 273) (fun _ _ k => x_aload_n dX5_readStatement_272 rfl rfl k) ?_
                      refine Xi.up (pc' := 274) (fun _ _ k => x_dupR dX5_readStatement_273 k) ?_
                      refine Xi.up (pc' := 277) (fun _ _ k => x_getIK hK76 lf5_32 rfl dX5_readStatement_274 h0.1 k) ?_
                      refine Xi.up (pc' := 278) (fun _ _ k => x_iconst dX5_readStatement_277 (show inR 2 from ⟨by decide, by decide⟩) k) ?_
                      obtain ⟨g88, h⟩ := h
                      refine Xi.up (pc' := 279) (fun _ _ k => x_iadd dX5_readStatement_278 g88 k) ?_
                      refine Xi.up (pc' := 282) (fun _ _ k => x_putIK hK76 lf5_32 rfl rfl (Or.inl rfl) dX5_readStatement_279 h0.1 k) ?_
                      have hK89 := KW.sI hK76 5 4 ((mI M74 5 4) + 2)
                      refine Xi.up (pc' := 283) (fun _ _ k => x_aload_n dX5_readStatement_282 rfl rfl k) ?_
                      refine Xi.up (pc' := 284) (fun _ _ k => x_iload_n dX5_readStatement_283 rfl rfl k) ?_
                      refine Xi.up (pc' := 286) (fun _ _ k => x_bipush dX5_readStatement_284 (show inR 97 from ⟨by decide, by decide⟩) (by decide) k) ?_
                      obtain ⟨g90, h⟩ := h
                      refine Xi.up (pc' := 287) (fun _ _ k => x_isub dX5_readStatement_286 g90 k) ?_
                      obtain ⟨x92, M91, hc94, hK93, h⟩ := h
                      refine Xi.up (pc' := 290) (st' := [zi x92]) (fun _ _ k => x_callVK (ci := 5) (as := [zi (x2 - 97)]) (st := []) hK89 k5_readChoose lm5_89 dX5_readStatement_287 rfl (by decide) (zs8 rfl) h0.1 ⟨_, _, rfl⟩ hc94 k) ?_
                      obtain ⟨g95, h⟩ := h
                      exact Xi.ret ⟨dX5_readStatement_290, Or.inr ⟨rfl, g95⟩⟩ h
                · have h := h.2 c
                  refine Xi.up (pc' := 222) (fun _ _ k => x_iload_n dX5_readStatement_221 rfl rfl k) ?_
                  refine Xi.up (pc' := 224) (fun _ _ k => x_bipush dX5_readStatement_222 (show inR 58 from ⟨by decide, by decide⟩) (by decide) k) ?_
                  refine Xi.br (tgt := 259) (pc' := 227) (x7 ≠ 58) (fun _ _ kt kf => x_icmp_ne dX5_readStatement_224 rfl kt kf) (fun c => ?_) (fun c => ?_)
                  · have h := h.1 c
                    refine Xi.up (pc' := 260) (fun _ _ k => x_iload_n dX5_readStatement_259 rfl rfl k) ?_
                    obtain ⟨x97, M96, hc99, hK98, h⟩ := h
                    refine Xi.up (pc' := 263) (st' := [zi x97]) (fun _ _ k => x_callS (as := [zi x2]) (st := []) k5_isVariable lm5_83 dX5_readStatement_260 rfl (by decide) (zs8 rfl) hc99 k) ?_
                    refine Xi.br (tgt := 291) (pc' := 266) (x97 = 0) (fun _ _ kt kf => x_if_eq dX5_readStatement_263 rfl kt kf) (fun c => ?_) (fun c => ?_)
                    · have h := h.1 c
                      refine Xi.up (pc' := 292) (fun _ _ k => x_aload_n dX5_readStatement_291 rfl rfl k) ?_
                      obtain ⟨x101, M100, hc103, hK102, h⟩ := h
                      refine Xi.up (pc' := 295) (st' := [zi x101]) (fun _ _ k => x_callVK (ci := 5) (as := []) (st := []) hK98 k5_readTest lm5_92 dX5_readStatement_292 rfl (by decide) (zs8 rfl) h0.1 ⟨_, _, rfl⟩ hc103 k) ?_
                      obtain ⟨g104, h⟩ := h
                      exact Xi.ret ⟨dX5_readStatement_295, Or.inr ⟨rfl, g104⟩⟩ h
                    · have h := h.2 c
                      refine Xi.up (pc' := 267) (fun _ _ k => x_iload_n dX5_readStatement_266 rfl rfl k) ?_
                      refine Xi.up (pc' := 269) (fun _ _ k => x_bipush dX5_readStatement_267 (show inR 63 from ⟨by decide, by decide⟩) (by decide) k) ?_
                      refine Xi.br (tgt := 291) (pc' := 272) (x7 ≠ 63) (fun _ _ kt kf => x_icmp_ne dX5_readStatement_269 rfl kt kf) (fun c => ?_) (fun c => ?_)
                      · have h := h.1 c
                        refine Xi.up (pc' := 292) (fun _ _ k => x_aload_n dX5_readStatement_291 rfl rfl k) ?_
                        obtain ⟨x106, M105, hc108, hK107, h⟩ := h
                        refine Xi.up (pc' := 295) (st' := [zi x106]) (fun _ _ k => x_callVK (ci := 5) (as := []) (st := []) hK98 k5_readTest lm5_92 dX5_readStatement_292 rfl (by decide) (zs8 rfl) h0.1 ⟨_, _, rfl⟩ hc108 k) ?_
                        obtain ⟨g109, h⟩ := h
                        exact Xi.ret ⟨dX5_readStatement_295, Or.inr ⟨rfl, g109⟩⟩ h
                      · have h := h.2 c
                        refine Xi.up (pc' := 273) (fun _ _ k => x_aload_n dX5_readStatement_272 rfl rfl k) ?_
                        refine Xi.up (pc' := 274) (fun _ _ k => x_dupR dX5_readStatement_273 k) ?_
                        refine Xi.up (pc' := 277) (fun _ _ k => x_getIK hK98 lf5_32 rfl dX5_readStatement_274 h0.1 k) ?_
                        refine Xi.up (pc' := 278) (fun _ _ k => x_iconst dX5_readStatement_277 (show inR 2 from ⟨by decide, by decide⟩) k) ?_
                        obtain ⟨g110, h⟩ := h
                        refine Xi.up (pc' := 279) (fun _ _ k => x_iadd dX5_readStatement_278 g110 k) ?_
                        refine Xi.up (pc' := 282) (fun _ _ k => x_putIK hK98 lf5_32 rfl rfl (Or.inl rfl) dX5_readStatement_279 h0.1 k) ?_
                        have hK111 := KW.sI hK98 5 4 ((mI M96 5 4) + 2)
                        refine Xi.up (pc' := 283) (fun _ _ k => x_aload_n dX5_readStatement_282 rfl rfl k) ?_
                        refine Xi.up (pc' := 284) (fun _ _ k => x_iload_n dX5_readStatement_283 rfl rfl k) ?_
                        refine Xi.up (pc' := 286) (fun _ _ k => x_bipush dX5_readStatement_284 (show inR 97 from ⟨by decide, by decide⟩) (by decide) k) ?_
                        obtain ⟨g112, h⟩ := h
                        refine Xi.up (pc' := 287) (fun _ _ k => x_isub dX5_readStatement_286 g112 k) ?_
                        obtain ⟨x114, M113, hc116, hK115, h⟩ := h
                        refine Xi.up (pc' := 290) (st' := [zi x114]) (fun _ _ k => x_callVK (ci := 5) (as := [zi (x2 - 97)]) (st := []) hK111 k5_readChoose lm5_89 dX5_readStatement_287 rfl (by decide) (zs8 rfl) h0.1 ⟨_, _, rfl⟩ hc116 k) ?_
                        obtain ⟨g117, h⟩ := h
                        exact Xi.ret ⟨dX5_readStatement_290, Or.inr ⟨rfl, g117⟩⟩ h
                  · have h := h.2 c
                    refine Xi.up (pc' := 228) (fun _ _ k => x_aload_n dX5_readStatement_227 rfl rfl k) ?_
                    refine Xi.up (pc' := 229) (fun _ _ k => x_dupR dX5_readStatement_228 k) ?_
                    refine Xi.up (pc' := 232) (fun _ _ k => x_getIK hK72 lf5_32 rfl dX5_readStatement_229 h0.1 k) ?_
                    refine Xi.up (pc' := 233) (fun _ _ k => x_iconst dX5_readStatement_232 (show inR 2 from ⟨by decide, by decide⟩) k) ?_
                    obtain ⟨g118, h⟩ := h
                    refine Xi.up (pc' := 234) (fun _ _ k => x_iadd dX5_readStatement_233 g118 k) ?_
                    refine Xi.up (pc' := 237) (fun _ _ k => x_putIK hK72 lf5_32 rfl rfl (Or.inl rfl) dX5_readStatement_234 h0.1 k) ?_
                    have hK119 := KW.sI hK72 5 4 ((mI M70 5 4) + 2)
                    refine Xi.up (pc' := 238) (fun _ _ k => x_aload_n dX5_readStatement_237 rfl rfl k) ?_
                    refine Xi.up (pc' := 239) (fun _ _ k => x_iconst dX5_readStatement_238 (show inR 1 from ⟨by decide, by decide⟩) k) ?_
                    refine Xi.up (pc' := 240) (fun _ _ k => x_iload_n dX5_readStatement_239 rfl rfl k) ?_
                    refine Xi.up (pc' := 242) (fun _ _ k => x_bipush dX5_readStatement_240 (show inR 97 from ⟨by decide, by decide⟩) (by decide) k) ?_
                    obtain ⟨g120, h⟩ := h
                    refine Xi.up (pc' := 243) (fun _ _ k => x_isub dX5_readStatement_242 g120 k) ?_
                    obtain ⟨x122, M121, hc124, hK123, h⟩ := h
                    refine Xi.up (pc' := 246) (st' := [zi x122]) (fun _ _ k => x_callVK (ci := 5) (as := [zi 1, zi (x2 - 97)]) (st := []) hK119 k5_addStatement lm5_75 dX5_readStatement_243 rfl (by decide) (zs8 rfl) h0.1 ⟨_, _, rfl⟩ hc124 k) ?_
                    refine Xi.up (pc' := 247) (fun _ _ k => x_popI dX5_readStatement_246 k) ?_
                    refine Xi.up (pc' := 248) (fun _ _ k => x_aload_n dX5_readStatement_247 rfl rfl k) ?_
                    refine Xi.up (pc' := 249) (fun _ _ k => x_aload_n dX5_readStatement_248 rfl rfl k) ?_
                    refine Xi.up (pc' := 252) (fun _ _ k => x_getRK hK123 lf5_25 rfl dX5_readStatement_249 h0.1 h0.2.2.2.2.1 k) ?_
                    refine Xi.up (pc' := 255) (fun _ _ k => x_getRK hK123 lf5_86 rfl dX5_readStatement_252 h0.2.2.2.2.2.2.2.2.1 h0.2.2.2.2.2.2.2.2.2.2.2.2.2.2.2.2.2.1 k) ?_
                    obtain ⟨x126, M125, hc128, hK127, h⟩ := h
                    refine Xi.up (pc' := 258) (st' := [zi x126]) (fun _ _ k => x_callVK (ci := 5) (as := [zr 17]) (st := []) hK123 k5_readFormula lm5_61 dX5_readStatement_255 rfl (by decide) (zs8 rfl) h0.1 ⟨_, _, rfl⟩ hc128 k) ?_
                    obtain ⟨g129, h⟩ := h
                    exact Xi.ret ⟨dX5_readStatement_258, Or.inr ⟨rfl, g129⟩⟩ h
              · have h := h.2 c
                refine Xi.up (pc' := 166) (fun _ _ k => x_iload_n dX5_readStatement_165 rfl rfl k) ?_
                refine Xi.up (pc' := 168) (fun _ _ k => x_bipush dX5_readStatement_166 (show inR 42 from ⟨by decide, by decide⟩) (by decide) k) ?_
                refine Xi.br (tgt := 214) (pc' := 171) (x7 ≠ 42) (fun _ _ kt kf => x_icmp_ne dX5_readStatement_168 rfl kt kf) (fun c => ?_) (fun c => ?_)
                · have h := h.1 c
                  refine Xi.up (pc' := 215) (fun _ _ k => x_iload_n dX5_readStatement_214 rfl rfl k) ?_
                  obtain ⟨x131, M130, hc133, hK132, h⟩ := h
                  refine Xi.up (pc' := 218) (st' := [zi x131]) (fun _ _ k => x_callS (as := [zi x2]) (st := []) k5_isVariable lm5_83 dX5_readStatement_215 rfl (by decide) (zs8 rfl) hc133 k) ?_
                  refine Xi.br (tgt := 259) (pc' := 221) (x131 = 0) (fun _ _ kt kf => x_if_eq dX5_readStatement_218 rfl kt kf) (fun c => ?_) (fun c => ?_)
                  · have h := h.1 c
                    refine Xi.up (pc' := 260) (fun _ _ k => x_iload_n dX5_readStatement_259 rfl rfl k) ?_
                    obtain ⟨x135, M134, hc137, hK136, h⟩ := h
                    refine Xi.up (pc' := 263) (st' := [zi x135]) (fun _ _ k => x_callS (as := [zi x2]) (st := []) k5_isVariable lm5_83 dX5_readStatement_260 rfl (by decide) (zs8 rfl) hc137 k) ?_
                    refine Xi.br (tgt := 291) (pc' := 266) (x135 = 0) (fun _ _ kt kf => x_if_eq dX5_readStatement_263 rfl kt kf) (fun c => ?_) (fun c => ?_)
                    · have h := h.1 c
                      refine Xi.up (pc' := 292) (fun _ _ k => x_aload_n dX5_readStatement_291 rfl rfl k) ?_
                      obtain ⟨x139, M138, hc141, hK140, h⟩ := h
                      refine Xi.up (pc' := 295) (st' := [zi x139]) (fun _ _ k => x_callVK (ci := 5) (as := []) (st := []) hK136 k5_readTest lm5_92 dX5_readStatement_292 rfl (by decide) (zs8 rfl) h0.1 ⟨_, _, rfl⟩ hc141 k) ?_
                      obtain ⟨g142, h⟩ := h
                      exact Xi.ret ⟨dX5_readStatement_295, Or.inr ⟨rfl, g142⟩⟩ h
                    · have h := h.2 c
                      refine Xi.up (pc' := 267) (fun _ _ k => x_iload_n dX5_readStatement_266 rfl rfl k) ?_
                      refine Xi.up (pc' := 269) (fun _ _ k => x_bipush dX5_readStatement_267 (show inR 63 from ⟨by decide, by decide⟩) (by decide) k) ?_
                      refine Xi.br (tgt := 291) (pc' := 272) (x7 ≠ 63) (fun _ _ kt kf => x_icmp_ne dX5_readStatement_269 rfl kt kf) (fun c => ?_) (fun c => ?_)
                      · have h := h.1 c
                        refine Xi.up (pc' := 292) (fun _ _ k => x_aload_n dX5_readStatement_291 rfl rfl k) ?_
                        obtain ⟨x144, M143, hc146, hK145, h⟩ := h
                        refine Xi.up (pc' := 295) (st' := [zi x144]) (fun _ _ k => x_callVK (ci := 5) (as := []) (st := []) hK136 k5_readTest lm5_92 dX5_readStatement_292 rfl (by decide) (zs8 rfl) h0.1 ⟨_, _, rfl⟩ hc146 k) ?_
                        obtain ⟨g147, h⟩ := h
                        exact Xi.ret ⟨dX5_readStatement_295, Or.inr ⟨rfl, g147⟩⟩ h
                      · have h := h.2 c
                        refine Xi.up (pc' := 273) (fun _ _ k => x_aload_n dX5_readStatement_272 rfl rfl k) ?_
                        refine Xi.up (pc' := 274) (fun _ _ k => x_dupR dX5_readStatement_273 k) ?_
                        refine Xi.up (pc' := 277) (fun _ _ k => x_getIK hK136 lf5_32 rfl dX5_readStatement_274 h0.1 k) ?_
                        refine Xi.up (pc' := 278) (fun _ _ k => x_iconst dX5_readStatement_277 (show inR 2 from ⟨by decide, by decide⟩) k) ?_
                        obtain ⟨g148, h⟩ := h
                        refine Xi.up (pc' := 279) (fun _ _ k => x_iadd dX5_readStatement_278 g148 k) ?_
                        refine Xi.up (pc' := 282) (fun _ _ k => x_putIK hK136 lf5_32 rfl rfl (Or.inl rfl) dX5_readStatement_279 h0.1 k) ?_
                        have hK149 := KW.sI hK136 5 4 ((mI M134 5 4) + 2)
                        refine Xi.up (pc' := 283) (fun _ _ k => x_aload_n dX5_readStatement_282 rfl rfl k) ?_
                        refine Xi.up (pc' := 284) (fun _ _ k => x_iload_n dX5_readStatement_283 rfl rfl k) ?_
                        refine Xi.up (pc' := 286) (fun _ _ k => x_bipush dX5_readStatement_284 (show inR 97 from ⟨by decide, by decide⟩) (by decide) k) ?_
                        obtain ⟨g150, h⟩ := h
                        refine Xi.up (pc' := 287) (fun _ _ k => x_isub dX5_readStatement_286 g150 k) ?_
                        obtain ⟨x152, M151, hc154, hK153, h⟩ := h
                        refine Xi.up (pc' := 290) (st' := [zi x152]) (fun _ _ k => x_callVK (ci := 5) (as := [zi (x2 - 97)]) (st := []) hK149 k5_readChoose lm5_89 dX5_readStatement_287 rfl (by decide) (zs8 rfl) h0.1 ⟨_, _, rfl⟩ hc154 k) ?_
                        obtain ⟨g155, h⟩ := h
                        exact Xi.ret ⟨dX5_readStatement_290, Or.inr ⟨rfl, g155⟩⟩ h
                  · have h := h.2 c
                    refine Xi.up (pc' := 222) (fun _ _ k => x_iload_n dX5_readStatement_221 rfl rfl k) ?_
                    refine Xi.up (pc' := 224) (fun _ _ k => x_bipush dX5_readStatement_222 (show inR 58 from ⟨by decide, by decide⟩) (by decide) k) ?_
                    refine Xi.br (tgt := 259) (pc' := 227) (x7 ≠ 58) (fun _ _ kt kf => x_icmp_ne dX5_readStatement_224 rfl kt kf) (fun c => ?_) (fun c => ?_)
                    · have h := h.1 c
                      refine Xi.up (pc' := 260) (fun _ _ k => x_iload_n dX5_readStatement_259 rfl rfl k) ?_
                      obtain ⟨x157, M156, hc159, hK158, h⟩ := h
                      refine Xi.up (pc' := 263) (st' := [zi x157]) (fun _ _ k => x_callS (as := [zi x2]) (st := []) k5_isVariable lm5_83 dX5_readStatement_260 rfl (by decide) (zs8 rfl) hc159 k) ?_
                      refine Xi.br (tgt := 291) (pc' := 266) (x157 = 0) (fun _ _ kt kf => x_if_eq dX5_readStatement_263 rfl kt kf) (fun c => ?_) (fun c => ?_)
                      · have h := h.1 c
                        refine Xi.up (pc' := 292) (fun _ _ k => x_aload_n dX5_readStatement_291 rfl rfl k) ?_
                        obtain ⟨x161, M160, hc163, hK162, h⟩ := h
                        refine Xi.up (pc' := 295) (st' := [zi x161]) (fun _ _ k => x_callVK (ci := 5) (as := []) (st := []) hK158 k5_readTest lm5_92 dX5_readStatement_292 rfl (by decide) (zs8 rfl) h0.1 ⟨_, _, rfl⟩ hc163 k) ?_
                        obtain ⟨g164, h⟩ := h
                        exact Xi.ret ⟨dX5_readStatement_295, Or.inr ⟨rfl, g164⟩⟩ h
                      · have h := h.2 c
                        refine Xi.up (pc' := 267) (fun _ _ k => x_iload_n dX5_readStatement_266 rfl rfl k) ?_
                        refine Xi.up (pc' := 269) (fun _ _ k => x_bipush dX5_readStatement_267 (show inR 63 from ⟨by decide, by decide⟩) (by decide) k) ?_
                        refine Xi.br (tgt := 291) (pc' := 272) (x7 ≠ 63) (fun _ _ kt kf => x_icmp_ne dX5_readStatement_269 rfl kt kf) (fun c => ?_) (fun c => ?_)
                        · have h := h.1 c
                          refine Xi.up (pc' := 292) (fun _ _ k => x_aload_n dX5_readStatement_291 rfl rfl k) ?_
                          obtain ⟨x166, M165, hc168, hK167, h⟩ := h
                          refine Xi.up (pc' := 295) (st' := [zi x166]) (fun _ _ k => x_callVK (ci := 5) (as := []) (st := []) hK158 k5_readTest lm5_92 dX5_readStatement_292 rfl (by decide) (zs8 rfl) h0.1 ⟨_, _, rfl⟩ hc168 k) ?_
                          obtain ⟨g169, h⟩ := h
                          exact Xi.ret ⟨dX5_readStatement_295, Or.inr ⟨rfl, g169⟩⟩ h
                        · have h := h.2 c
                          refine Xi.up (pc' := 273) (fun _ _ k => x_aload_n dX5_readStatement_272 rfl rfl k) ?_
                          refine Xi.up (pc' := 274) (fun _ _ k => x_dupR dX5_readStatement_273 k) ?_
                          refine Xi.up (pc' := 277) (fun _ _ k => x_getIK hK158 lf5_32 rfl dX5_readStatement_274 h0.1 k) ?_
                          refine Xi.up (pc' := 278) (fun _ _ k => x_iconst dX5_readStatement_277 (show inR 2 from ⟨by decide, by decide⟩) k) ?_
                          obtain ⟨g170, h⟩ := h
                          refine Xi.up (pc' := 279) (fun _ _ k => x_iadd dX5_readStatement_278 g170 k) ?_
                          refine Xi.up (pc' := 282) (fun _ _ k => x_putIK hK158 lf5_32 rfl rfl (Or.inl rfl) dX5_readStatement_279 h0.1 k) ?_
                          have hK171 := KW.sI hK158 5 4 ((mI M156 5 4) + 2)
                          refine Xi.up (pc' := 283) (fun _ _ k => x_aload_n dX5_readStatement_282 rfl rfl k) ?_
                          refine Xi.up (pc' := 284) (fun _ _ k => x_iload_n dX5_readStatement_283 rfl rfl k) ?_
                          refine Xi.up (pc' := 286) (fun _ _ k => x_bipush dX5_readStatement_284 (show inR 97 from ⟨by decide, by decide⟩) (by decide) k) ?_
                          obtain ⟨g172, h⟩ := h
                          refine Xi.up (pc' := 287) (fun _ _ k => x_isub dX5_readStatement_286 g172 k) ?_
                          obtain ⟨x174, M173, hc176, hK175, h⟩ := h
                          refine Xi.up (pc' := 290) (st' := [zi x174]) (fun _ _ k => x_callVK (ci := 5) (as := [zi (x2 - 97)]) (st := []) hK171 k5_readChoose lm5_89 dX5_readStatement_287 rfl (by decide) (zs8 rfl) h0.1 ⟨_, _, rfl⟩ hc176 k) ?_
                          obtain ⟨g177, h⟩ := h
                          exact Xi.ret ⟨dX5_readStatement_290, Or.inr ⟨rfl, g177⟩⟩ h
                    · have h := h.2 c
                      refine Xi.up (pc' := 228) (fun _ _ k => x_aload_n dX5_readStatement_227 rfl rfl k) ?_
                      refine Xi.up (pc' := 229) (fun _ _ k => x_dupR dX5_readStatement_228 k) ?_
                      refine Xi.up (pc' := 232) (fun _ _ k => x_getIK hK132 lf5_32 rfl dX5_readStatement_229 h0.1 k) ?_
                      refine Xi.up (pc' := 233) (fun _ _ k => x_iconst dX5_readStatement_232 (show inR 2 from ⟨by decide, by decide⟩) k) ?_
                      obtain ⟨g178, h⟩ := h
                      refine Xi.up (pc' := 234) (fun _ _ k => x_iadd dX5_readStatement_233 g178 k) ?_
                      refine Xi.up (pc' := 237) (fun _ _ k => x_putIK hK132 lf5_32 rfl rfl (Or.inl rfl) dX5_readStatement_234 h0.1 k) ?_
                      have hK179 := KW.sI hK132 5 4 ((mI M130 5 4) + 2)
                      refine Xi.up (pc' := 238) (fun _ _ k => x_aload_n dX5_readStatement_237 rfl rfl k) ?_
                      refine Xi.up (pc' := 239) (fun _ _ k => x_iconst dX5_readStatement_238 (show inR 1 from ⟨by decide, by decide⟩) k) ?_
                      refine Xi.up (pc' := 240) (fun _ _ k => x_iload_n dX5_readStatement_239 rfl rfl k) ?_
                      refine Xi.up (pc' := 242) (fun _ _ k => x_bipush dX5_readStatement_240 (show inR 97 from ⟨by decide, by decide⟩) (by decide) k) ?_
                      obtain ⟨g180, h⟩ := h
                      refine Xi.up (pc' := 243) (fun _ _ k => x_isub dX5_readStatement_242 g180 k) ?_
                      obtain ⟨x182, M181, hc184, hK183, h⟩ := h
                      refine Xi.up (pc' := 246) (st' := [zi x182]) (fun _ _ k => x_callVK (ci := 5) (as := [zi 1, zi (x2 - 97)]) (st := []) hK179 k5_addStatement lm5_75 dX5_readStatement_243 rfl (by decide) (zs8 rfl) h0.1 ⟨_, _, rfl⟩ hc184 k) ?_
                      refine Xi.up (pc' := 247) (fun _ _ k => x_popI dX5_readStatement_246 k) ?_
                      refine Xi.up (pc' := 248) (fun _ _ k => x_aload_n dX5_readStatement_247 rfl rfl k) ?_
                      refine Xi.up (pc' := 249) (fun _ _ k => x_aload_n dX5_readStatement_248 rfl rfl k) ?_
                      refine Xi.up (pc' := 252) (fun _ _ k => x_getRK hK183 lf5_25 rfl dX5_readStatement_249 h0.1 h0.2.2.2.2.1 k) ?_
                      refine Xi.up (pc' := 255) (fun _ _ k => x_getRK hK183 lf5_86 rfl dX5_readStatement_252 h0.2.2.2.2.2.2.2.2.1 h0.2.2.2.2.2.2.2.2.2.2.2.2.2.2.2.2.2.1 k) ?_
                      obtain ⟨x186, M185, hc188, hK187, h⟩ := h
                      refine Xi.up (pc' := 258) (st' := [zi x186]) (fun _ _ k => x_callVK (ci := 5) (as := [zr 17]) (st := []) hK183 k5_readFormula lm5_61 dX5_readStatement_255 rfl (by decide) (zs8 rfl) h0.1 ⟨_, _, rfl⟩ hc188 k) ?_
                      obtain ⟨g189, h⟩ := h
                      exact Xi.ret ⟨dX5_readStatement_258, Or.inr ⟨rfl, g189⟩⟩ h
                · have h := h.2 c
                  refine Xi.up (pc' := 172) (fun _ _ k => x_aload_n dX5_readStatement_171 rfl rfl k) ?_
                  refine Xi.up (pc' := 175) (fun _ _ k => x_getRK hK8 lf5_9 rfl dX5_readStatement_172 h0.1 h0.2.1 k) ?_
                  refine Xi.up (pc' := 176) (fun _ _ k => x_aload_n dX5_readStatement_175 rfl rfl k) ?_
                  refine Xi.up (pc' := 179) (fun _ _ k => x_getIK hK8 lf5_32 rfl dX5_readStatement_176 h0.1 k) ?_
                  refine Xi.up (pc' := 180) (fun _ _ k => x_iconst dX5_readStatement_179 (show inR 2 from ⟨by decide, by decide⟩) k) ?_
                  obtain ⟨g190, h⟩ := h
                  refine Xi.up (pc' := 181) (fun _ _ k => x_iadd dX5_readStatement_180 g190 k) ?_
                  obtain ⟨x192, M191, hc194, hK193, h⟩ := h
                  refine Xi.up (pc' := 184) (st' := [zi x192]) (fun _ _ k => x_callVK (ci := 7) (as := [zi ((mI M6 5 4) + 2)]) (st := []) hK8 k7_at lm5_71 dX5_readStatement_181 rfl (by decide) (zs8 rfl) h0.2.2.2.2.2.2.2.1.1 ⟨_, _, rfl⟩ hc194 k) ?_
                  refine Xi.up (pc' := 186) (fun _ _ k => x_bipush dX5_readStatement_184 (show inR 40 from ⟨by decide, by decide⟩) (by decide) k) ?_
                  refine Xi.br (tgt := 214) (pc' := 189) (x192 ≠ 40) (fun _ _ kt kf => x_icmp_ne dX5_readStatement_186 rfl kt kf) (fun c => ?_) (fun c => ?_)
                  · have h := h.1 c
                    refine Xi.up (pc' := 215) (fun _ _ k => x_iload_n dX5_readStatement_214 rfl rfl k) ?_
                    obtain ⟨x196, M195, hc198, hK197, h⟩ := h
                    refine Xi.up (pc' := 218) (st' := [zi x196]) (fun _ _ k => x_callS (as := [zi x2]) (st := []) k5_isVariable lm5_83 dX5_readStatement_215 rfl (by decide) (zs8 rfl) hc198 k) ?_
                    refine Xi.br (tgt := 259) (pc' := 221) (x196 = 0) (fun _ _ kt kf => x_if_eq dX5_readStatement_218 rfl kt kf) (fun c => ?_) (fun c => ?_)
                    · have h := h.1 c
                      refine Xi.up (pc' := 260) (fun _ _ k => x_iload_n dX5_readStatement_259 rfl rfl k) ?_
                      obtain ⟨x200, M199, hc202, hK201, h⟩ := h
                      refine Xi.up (pc' := 263) (st' := [zi x200]) (fun _ _ k => x_callS (as := [zi x2]) (st := []) k5_isVariable lm5_83 dX5_readStatement_260 rfl (by decide) (zs8 rfl) hc202 k) ?_
                      refine Xi.br (tgt := 291) (pc' := 266) (x200 = 0) (fun _ _ kt kf => x_if_eq dX5_readStatement_263 rfl kt kf) (fun c => ?_) (fun c => ?_)
                      · have h := h.1 c
                        refine Xi.up (pc' := 292) (fun _ _ k => x_aload_n dX5_readStatement_291 rfl rfl k) ?_
                        obtain ⟨x204, M203, hc206, hK205, h⟩ := h
                        refine Xi.up (pc' := 295) (st' := [zi x204]) (fun _ _ k => x_callVK (ci := 5) (as := []) (st := []) hK201 k5_readTest lm5_92 dX5_readStatement_292 rfl (by decide) (zs8 rfl) h0.1 ⟨_, _, rfl⟩ hc206 k) ?_
                        obtain ⟨g207, h⟩ := h
                        exact Xi.ret ⟨dX5_readStatement_295, Or.inr ⟨rfl, g207⟩⟩ h
                      · have h := h.2 c
                        refine Xi.up (pc' := 267) (fun _ _ k => x_iload_n dX5_readStatement_266 rfl rfl k) ?_
                        refine Xi.up (pc' := 269) (fun _ _ k => x_bipush dX5_readStatement_267 (show inR 63 from ⟨by decide, by decide⟩) (by decide) k) ?_
                        refine Xi.br (tgt := 291) (pc' := 272) (x7 ≠ 63) (fun _ _ kt kf => x_icmp_ne dX5_readStatement_269 rfl kt kf) (fun c => ?_) (fun c => ?_)
                        · have h := h.1 c
                          refine Xi.up (pc' := 292) (fun _ _ k => x_aload_n dX5_readStatement_291 rfl rfl k) ?_
                          obtain ⟨x209, M208, hc211, hK210, h⟩ := h
                          refine Xi.up (pc' := 295) (st' := [zi x209]) (fun _ _ k => x_callVK (ci := 5) (as := []) (st := []) hK201 k5_readTest lm5_92 dX5_readStatement_292 rfl (by decide) (zs8 rfl) h0.1 ⟨_, _, rfl⟩ hc211 k) ?_
                          obtain ⟨g212, h⟩ := h
                          exact Xi.ret ⟨dX5_readStatement_295, Or.inr ⟨rfl, g212⟩⟩ h
                        · have h := h.2 c
                          refine Xi.up (pc' := 273) (fun _ _ k => x_aload_n dX5_readStatement_272 rfl rfl k) ?_
                          refine Xi.up (pc' := 274) (fun _ _ k => x_dupR dX5_readStatement_273 k) ?_
                          refine Xi.up (pc' := 277) (fun _ _ k => x_getIK hK201 lf5_32 rfl dX5_readStatement_274 h0.1 k) ?_
                          refine Xi.up (pc' := 278) (fun _ _ k => x_iconst dX5_readStatement_277 (show inR 2 from ⟨by decide, by decide⟩) k) ?_
                          obtain ⟨g213, h⟩ := h
                          refine Xi.up (pc' := 279) (fun _ _ k => x_iadd dX5_readStatement_278 g213 k) ?_
                          refine Xi.up (pc' := 282) (fun _ _ k => x_putIK hK201 lf5_32 rfl rfl (Or.inl rfl) dX5_readStatement_279 h0.1 k) ?_
                          have hK214 := KW.sI hK201 5 4 ((mI M199 5 4) + 2)
                          refine Xi.up (pc' := 283) (fun _ _ k => x_aload_n dX5_readStatement_282 rfl rfl k) ?_
                          refine Xi.up (pc' := 284) (fun _ _ k => x_iload_n dX5_readStatement_283 rfl rfl k) ?_
                          refine Xi.up (pc' := 286) (fun _ _ k => x_bipush dX5_readStatement_284 (show inR 97 from ⟨by decide, by decide⟩) (by decide) k) ?_
                          obtain ⟨g215, h⟩ := h
                          refine Xi.up (pc' := 287) (fun _ _ k => x_isub dX5_readStatement_286 g215 k) ?_
                          obtain ⟨x217, M216, hc219, hK218, h⟩ := h
                          refine Xi.up (pc' := 290) (st' := [zi x217]) (fun _ _ k => x_callVK (ci := 5) (as := [zi (x2 - 97)]) (st := []) hK214 k5_readChoose lm5_89 dX5_readStatement_287 rfl (by decide) (zs8 rfl) h0.1 ⟨_, _, rfl⟩ hc219 k) ?_
                          obtain ⟨g220, h⟩ := h
                          exact Xi.ret ⟨dX5_readStatement_290, Or.inr ⟨rfl, g220⟩⟩ h
                    · have h := h.2 c
                      refine Xi.up (pc' := 222) (fun _ _ k => x_iload_n dX5_readStatement_221 rfl rfl k) ?_
                      refine Xi.up (pc' := 224) (fun _ _ k => x_bipush dX5_readStatement_222 (show inR 58 from ⟨by decide, by decide⟩) (by decide) k) ?_
                      refine Xi.br (tgt := 259) (pc' := 227) (x7 ≠ 58) (fun _ _ kt kf => x_icmp_ne dX5_readStatement_224 rfl kt kf) (fun c => ?_) (fun c => ?_)
                      · have h := h.1 c
                        refine Xi.up (pc' := 260) (fun _ _ k => x_iload_n dX5_readStatement_259 rfl rfl k) ?_
                        obtain ⟨x222, M221, hc224, hK223, h⟩ := h
                        refine Xi.up (pc' := 263) (st' := [zi x222]) (fun _ _ k => x_callS (as := [zi x2]) (st := []) k5_isVariable lm5_83 dX5_readStatement_260 rfl (by decide) (zs8 rfl) hc224 k) ?_
                        refine Xi.br (tgt := 291) (pc' := 266) (x222 = 0) (fun _ _ kt kf => x_if_eq dX5_readStatement_263 rfl kt kf) (fun c => ?_) (fun c => ?_)
                        · have h := h.1 c
                          refine Xi.up (pc' := 292) (fun _ _ k => x_aload_n dX5_readStatement_291 rfl rfl k) ?_
                          obtain ⟨x226, M225, hc228, hK227, h⟩ := h
                          refine Xi.up (pc' := 295) (st' := [zi x226]) (fun _ _ k => x_callVK (ci := 5) (as := []) (st := []) hK223 k5_readTest lm5_92 dX5_readStatement_292 rfl (by decide) (zs8 rfl) h0.1 ⟨_, _, rfl⟩ hc228 k) ?_
                          obtain ⟨g229, h⟩ := h
                          exact Xi.ret ⟨dX5_readStatement_295, Or.inr ⟨rfl, g229⟩⟩ h
                        · have h := h.2 c
                          refine Xi.up (pc' := 267) (fun _ _ k => x_iload_n dX5_readStatement_266 rfl rfl k) ?_
                          refine Xi.up (pc' := 269) (fun _ _ k => x_bipush dX5_readStatement_267 (show inR 63 from ⟨by decide, by decide⟩) (by decide) k) ?_
                          refine Xi.br (tgt := 291) (pc' := 272) (x7 ≠ 63) (fun _ _ kt kf => x_icmp_ne dX5_readStatement_269 rfl kt kf) (fun c => ?_) (fun c => ?_)
                          · have h := h.1 c
                            refine Xi.up (pc' := 292) (fun _ _ k => x_aload_n dX5_readStatement_291 rfl rfl k) ?_
                            obtain ⟨x231, M230, hc233, hK232, h⟩ := h
                            refine Xi.up (pc' := 295) (st' := [zi x231]) (fun _ _ k => x_callVK (ci := 5) (as := []) (st := []) hK223 k5_readTest lm5_92 dX5_readStatement_292 rfl (by decide) (zs8 rfl) h0.1 ⟨_, _, rfl⟩ hc233 k) ?_
                            obtain ⟨g234, h⟩ := h
                            exact Xi.ret ⟨dX5_readStatement_295, Or.inr ⟨rfl, g234⟩⟩ h
                          · have h := h.2 c
                            refine Xi.up (pc' := 273) (fun _ _ k => x_aload_n dX5_readStatement_272 rfl rfl k) ?_
                            refine Xi.up (pc' := 274) (fun _ _ k => x_dupR dX5_readStatement_273 k) ?_
                            refine Xi.up (pc' := 277) (fun _ _ k => x_getIK hK223 lf5_32 rfl dX5_readStatement_274 h0.1 k) ?_
                            refine Xi.up (pc' := 278) (fun _ _ k => x_iconst dX5_readStatement_277 (show inR 2 from ⟨by decide, by decide⟩) k) ?_
                            obtain ⟨g235, h⟩ := h
                            refine Xi.up (pc' := 279) (fun _ _ k => x_iadd dX5_readStatement_278 g235 k) ?_
                            refine Xi.up (pc' := 282) (fun _ _ k => x_putIK hK223 lf5_32 rfl rfl (Or.inl rfl) dX5_readStatement_279 h0.1 k) ?_
                            have hK236 := KW.sI hK223 5 4 ((mI M221 5 4) + 2)
                            refine Xi.up (pc' := 283) (fun _ _ k => x_aload_n dX5_readStatement_282 rfl rfl k) ?_
                            refine Xi.up (pc' := 284) (fun _ _ k => x_iload_n dX5_readStatement_283 rfl rfl k) ?_
                            refine Xi.up (pc' := 286) (fun _ _ k => x_bipush dX5_readStatement_284 (show inR 97 from ⟨by decide, by decide⟩) (by decide) k) ?_
                            obtain ⟨g237, h⟩ := h
                            refine Xi.up (pc' := 287) (fun _ _ k => x_isub dX5_readStatement_286 g237 k) ?_
                            obtain ⟨x239, M238, hc241, hK240, h⟩ := h
                            refine Xi.up (pc' := 290) (st' := [zi x239]) (fun _ _ k => x_callVK (ci := 5) (as := [zi (x2 - 97)]) (st := []) hK236 k5_readChoose lm5_89 dX5_readStatement_287 rfl (by decide) (zs8 rfl) h0.1 ⟨_, _, rfl⟩ hc241 k) ?_
                            obtain ⟨g242, h⟩ := h
                            exact Xi.ret ⟨dX5_readStatement_290, Or.inr ⟨rfl, g242⟩⟩ h
                      · have h := h.2 c
                        refine Xi.up (pc' := 228) (fun _ _ k => x_aload_n dX5_readStatement_227 rfl rfl k) ?_
                        refine Xi.up (pc' := 229) (fun _ _ k => x_dupR dX5_readStatement_228 k) ?_
                        refine Xi.up (pc' := 232) (fun _ _ k => x_getIK hK197 lf5_32 rfl dX5_readStatement_229 h0.1 k) ?_
                        refine Xi.up (pc' := 233) (fun _ _ k => x_iconst dX5_readStatement_232 (show inR 2 from ⟨by decide, by decide⟩) k) ?_
                        obtain ⟨g243, h⟩ := h
                        refine Xi.up (pc' := 234) (fun _ _ k => x_iadd dX5_readStatement_233 g243 k) ?_
                        refine Xi.up (pc' := 237) (fun _ _ k => x_putIK hK197 lf5_32 rfl rfl (Or.inl rfl) dX5_readStatement_234 h0.1 k) ?_
                        have hK244 := KW.sI hK197 5 4 ((mI M195 5 4) + 2)
                        refine Xi.up (pc' := 238) (fun _ _ k => x_aload_n dX5_readStatement_237 rfl rfl k) ?_
                        refine Xi.up (pc' := 239) (fun _ _ k => x_iconst dX5_readStatement_238 (show inR 1 from ⟨by decide, by decide⟩) k) ?_
                        refine Xi.up (pc' := 240) (fun _ _ k => x_iload_n dX5_readStatement_239 rfl rfl k) ?_
                        refine Xi.up (pc' := 242) (fun _ _ k => x_bipush dX5_readStatement_240 (show inR 97 from ⟨by decide, by decide⟩) (by decide) k) ?_
                        obtain ⟨g245, h⟩ := h
                        refine Xi.up (pc' := 243) (fun _ _ k => x_isub dX5_readStatement_242 g245 k) ?_
                        obtain ⟨x247, M246, hc249, hK248, h⟩ := h
                        refine Xi.up (pc' := 246) (st' := [zi x247]) (fun _ _ k => x_callVK (ci := 5) (as := [zi 1, zi (x2 - 97)]) (st := []) hK244 k5_addStatement lm5_75 dX5_readStatement_243 rfl (by decide) (zs8 rfl) h0.1 ⟨_, _, rfl⟩ hc249 k) ?_
                        refine Xi.up (pc' := 247) (fun _ _ k => x_popI dX5_readStatement_246 k) ?_
                        refine Xi.up (pc' := 248) (fun _ _ k => x_aload_n dX5_readStatement_247 rfl rfl k) ?_
                        refine Xi.up (pc' := 249) (fun _ _ k => x_aload_n dX5_readStatement_248 rfl rfl k) ?_
                        refine Xi.up (pc' := 252) (fun _ _ k => x_getRK hK248 lf5_25 rfl dX5_readStatement_249 h0.1 h0.2.2.2.2.1 k) ?_
                        refine Xi.up (pc' := 255) (fun _ _ k => x_getRK hK248 lf5_86 rfl dX5_readStatement_252 h0.2.2.2.2.2.2.2.2.1 h0.2.2.2.2.2.2.2.2.2.2.2.2.2.2.2.2.2.1 k) ?_
                        obtain ⟨x251, M250, hc253, hK252, h⟩ := h
                        refine Xi.up (pc' := 258) (st' := [zi x251]) (fun _ _ k => x_callVK (ci := 5) (as := [zr 17]) (st := []) hK248 k5_readFormula lm5_61 dX5_readStatement_255 rfl (by decide) (zs8 rfl) h0.1 ⟨_, _, rfl⟩ hc253 k) ?_
                        obtain ⟨g254, h⟩ := h
                        exact Xi.ret ⟨dX5_readStatement_258, Or.inr ⟨rfl, g254⟩⟩ h
                  · have h := h.2 c
                    refine Xi.up (pc' := 190) (fun _ _ k => x_aload_n dX5_readStatement_189 rfl rfl k) ?_
                    refine Xi.up (pc' := 191) (fun _ _ k => x_dupR dX5_readStatement_190 k) ?_
                    refine Xi.up (pc' := 194) (fun _ _ k => x_getIK hK193 lf5_32 rfl dX5_readStatement_191 h0.1 k) ?_
                    refine Xi.up (pc' := 195) (fun _ _ k => x_iconst dX5_readStatement_194 (show inR 2 from ⟨by decide, by decide⟩) k) ?_
                    obtain ⟨g255, h⟩ := h
                    refine Xi.up (pc' := 196) (fun _ _ k => x_iadd dX5_readStatement_195 g255 k) ?_
                    refine Xi.up (pc' := 199) (fun _ _ k => x_putIK hK193 lf5_32 rfl rfl (Or.inl rfl) dX5_readStatement_196 h0.1 k) ?_
                    have hK256 := KW.sI hK193 5 4 ((mI M191 5 4) + 2)
                    refine Xi.up (pc' := 200) (fun _ _ k => x_aload_n dX5_readStatement_199 rfl rfl k) ?_
                    refine Xi.up (pc' := 201) (fun _ _ k => x_aload_n dX5_readStatement_200 rfl rfl k) ?_
                    refine Xi.up (pc' := 203) (fun _ _ k => x_bipush dX5_readStatement_201 (show inR 9 from ⟨by decide, by decide⟩) (by decide) k) ?_
                    refine Xi.up (pc' := 204) (fun _ _ k => x_iload_n dX5_readStatement_203 rfl rfl k) ?_
                    refine Xi.up (pc' := 206) (fun _ _ k => x_bipush dX5_readStatement_204 (show inR 48 from ⟨by decide, by decide⟩) (by decide) k) ?_
                    obtain ⟨g257, h⟩ := h
                    refine Xi.up (pc' := 207) (fun _ _ k => x_isub dX5_readStatement_206 g257 k) ?_
                    obtain ⟨x259, M258, hc261, hK260, h⟩ := h
                    refine Xi.up (pc' := 210) (st' := [zi x259, zr 5]) (fun _ _ k => x_callVK (ci := 5) (as := [zi 9, zi (x2 - 48)]) (st := [zr 5]) hK256 k5_addStatement lm5_75 dX5_readStatement_207 rfl (by decide) (zs8 rfl) h0.1 ⟨_, _, rfl⟩ hc261 k) ?_
                    obtain ⟨x263, M262, hc265, hK264, h⟩ := h
                    refine Xi.up (pc' := 213) (st' := [zi x263]) (fun _ _ k => x_callVK (ci := 5) (as := [zi x259]) (st := []) hK260 k5_openBracket lm5_79 dX5_readStatement_210 rfl (by decide) (zs8 rfl) h0.1 ⟨_, _, rfl⟩ hc265 k) ?_
                    obtain ⟨g266, h⟩ := h
                    exact Xi.ret ⟨dX5_readStatement_213, Or.inr ⟨rfl, g266⟩⟩ h
          · have h := h.2 c
            refine Xi.up (pc' := 134) (fun _ _ k => x_aload_n dX5_readStatement_133 rfl rfl k) ?_
            refine Xi.up (pc' := 136) (fun _ _ k => x_bipush dX5_readStatement_134 (show inR 8 from ⟨by decide, by decide⟩) (by decide) k) ?_
            refine Xi.up (pc' := 137) (fun _ _ k => x_iconst dX5_readStatement_136 (show inR 0 from ⟨by decide, by decide⟩) k) ?_
            obtain ⟨x268, M267, hc270, hK269, h⟩ := h
            refine Xi.up (pc' := 140) (st' := [zi x268]) (fun _ _ k => x_callVK (ci := 5) (as := [zi 8, zi 0]) (st := []) hK8 k5_addStatement lm5_75 dX5_readStatement_137 rfl (by decide) (zs8 rfl) h0.1 ⟨_, _, rfl⟩ hc270 k) ?_
            refine Xi.up (pc' := 141) (fun _ _ k => x_popI dX5_readStatement_140 k) ?_
            refine Xi.up (pc' := 142) (fun _ _ k => x_aload_n dX5_readStatement_141 rfl rfl k) ?_
            refine Xi.up (pc' := 143) (fun _ _ k => x_dupR dX5_readStatement_142 k) ?_
            refine Xi.up (pc' := 146) (fun _ _ k => x_getIK hK269 lf5_32 rfl dX5_readStatement_143 h0.1 k) ?_
            refine Xi.up (pc' := 147) (fun _ _ k => x_iconst dX5_readStatement_146 (show inR 1 from ⟨by decide, by decide⟩) k) ?_
            obtain ⟨g271, h⟩ := h
            refine Xi.up (pc' := 148) (fun _ _ k => x_iadd dX5_readStatement_147 g271 k) ?_
            refine Xi.up (pc' := 151) (fun _ _ k => x_putIK hK269 lf5_32 rfl rfl (Or.inl rfl) dX5_readStatement_148 h0.1 k) ?_
            have hK272 := KW.sI hK269 5 4 ((mI M267 5 4) + 1)
            refine Xi.up (pc' := 152) (fun _ _ k => x_iconst dX5_readStatement_151 (show inR 1 from ⟨by decide, by decide⟩) k) ?_
            exact Xi.ret ⟨dX5_readStatement_152, Or.inr ⟨rfl, Or.inr rfl⟩⟩ h
        · have h := h.2 c
          refine Xi.up (pc' := 82) (fun _ _ k => x_aload_n dX5_readStatement_81 rfl rfl k) ?_
          refine Xi.up (pc' := 83) (fun _ _ k => x_dupR dX5_readStatement_82 k) ?_
          refine Xi.up (pc' := 86) (fun _ _ k => x_getIK hK8 lf5_32 rfl dX5_readStatement_83 h0.1 k) ?_
          refine Xi.up (pc' := 87) (fun _ _ k => x_iconst dX5_readStatement_86 (show inR 1 from ⟨by decide, by decide⟩) k) ?_
          obtain ⟨g273, h⟩ := h
          refine Xi.up (pc' := 88) (fun _ _ k => x_iadd dX5_readStatement_87 g273 k) ?_
          refine Xi.up (pc' := 91) (fun _ _ k => x_putIK hK8 lf5_32 rfl rfl (Or.inl rfl) dX5_readStatement_88 h0.1 k) ?_
          have hK274 := KW.sI hK8 5 4 ((mI M6 5 4) + 1)
          refine Xi.up (pc' := 92) (fun _ _ k => x_aload_n dX5_readStatement_91 rfl rfl k) ?_
          refine Xi.up (pc' := 95) (fun _ _ k => x_getRK hK274 lf5_9 rfl dX5_readStatement_92 h0.1 h0.2.1 k) ?_
          refine Xi.up (pc' := 96) (fun _ _ k => x_aload_n dX5_readStatement_95 rfl rfl k) ?_
          refine Xi.up (pc' := 99) (fun _ _ k => x_getIK hK274 lf5_32 rfl dX5_readStatement_96 h0.1 k) ?_
          obtain ⟨x276, M275, hc278, hK277, h⟩ := h
          refine Xi.up (pc' := 102) (st' := [zi x276]) (fun _ _ k => x_callVK (ci := 7) (as := [zi (mI (sI M6 5 4 ((mI M6 5 4) + 1)) 5 4)]) (st := []) hK274 k7_at lm5_71 dX5_readStatement_99 rfl (by decide) (zs8 rfl) h0.2.2.2.2.2.2.2.1.1 ⟨_, _, rfl⟩ hc278 k) ?_
          refine Xi.up (pc' := 104) (fun _ _ k => x_bipush dX5_readStatement_102 (show inR 91 from ⟨by decide, by decide⟩) (by decide) k) ?_
          refine Xi.br (tgt := 125) (pc' := 107) (x276 ≠ 91) (fun _ _ kt kf => x_icmp_ne dX5_readStatement_104 rfl kt kf) (fun c => ?_) (fun c => ?_)
          · have h := h.1 c
            refine Xi.up (pc' := 126) (fun _ _ k => x_iconst dX5_readStatement_125 (show inR 0 from ⟨by decide, by decide⟩) k) ?_
            exact Xi.ret ⟨dX5_readStatement_126, Or.inr ⟨rfl, Or.inl rfl⟩⟩ h
          · have h := h.2 c
            refine Xi.up (pc' := 108) (fun _ _ k => x_aload_n dX5_readStatement_107 rfl rfl k) ?_
            refine Xi.up (pc' := 109) (fun _ _ k => x_aload_n dX5_readStatement_108 rfl rfl k) ?_
            refine Xi.up (pc' := 111) (fun _ _ k => x_bipush dX5_readStatement_109 (show inR 7 from ⟨by decide, by decide⟩) (by decide) k) ?_
            refine Xi.up (pc' := 112) (fun _ _ k => x_iconst dX5_readStatement_111 (show inR 0 from ⟨by decide, by decide⟩) k) ?_
            obtain ⟨x280, M279, hc282, hK281, h⟩ := h
            refine Xi.up (pc' := 115) (st' := [zi x280, zr 5]) (fun _ _ k => x_callVK (ci := 5) (as := [zi 7, zi 0]) (st := [zr 5]) hK277 k5_addStatement lm5_75 dX5_readStatement_112 rfl (by decide) (zs8 rfl) h0.1 ⟨_, _, rfl⟩ hc282 k) ?_
            obtain ⟨x284, M283, hc286, hK285, h⟩ := h
            refine Xi.up (pc' := 118) (st' := [zi x284]) (fun _ _ k => x_callVK (ci := 5) (as := [zi x280]) (st := []) hK281 k5_openBracket lm5_79 dX5_readStatement_115 rfl (by decide) (zs8 rfl) h0.1 ⟨_, _, rfl⟩ hc286 k) ?_
            refine Xi.br (tgt := 125) (pc' := 121) (x284 = 0) (fun _ _ kt kf => x_if_eq dX5_readStatement_118 rfl kt kf) (fun c => ?_) (fun c => ?_)
            · have h := h.1 c
              refine Xi.up (pc' := 126) (fun _ _ k => x_iconst dX5_readStatement_125 (show inR 0 from ⟨by decide, by decide⟩) k) ?_
              exact Xi.ret ⟨dX5_readStatement_126, Or.inr ⟨rfl, Or.inl rfl⟩⟩ h
            · have h := h.2 c
              refine Xi.up (pc' := 122) (fun _ _ k => x_iconst dX5_readStatement_121 (show inR 1 from ⟨by decide, by decide⟩) k) ?_
              refine Xi.up (pc' := 126) (fun _ _ k => x_goto dX5_readStatement_122 rfl k) ?_
              exact Xi.ret ⟨dX5_readStatement_126, Or.inr ⟨rfl, Or.inr rfl⟩⟩ h
      · have h := h.2 c
        refine Xi.up (pc' := 64) (fun _ _ k => x_aload_n dX5_readStatement_63 rfl rfl k) ?_
        refine Xi.up (pc' := 65) (fun _ _ k => x_aload_n dX5_readStatement_64 rfl rfl k) ?_
        refine Xi.up (pc' := 67) (fun _ _ k => x_bipush dX5_readStatement_65 (show inR 6 from ⟨by decide, by decide⟩) (by decide) k) ?_
        refine Xi.up (pc' := 68) (fun _ _ k => x_iconst dX5_readStatement_67 (show inR 0 from ⟨by decide, by decide⟩) k) ?_
        obtain ⟨x288, M287, hc290, hK289, h⟩ := h
        refine Xi.up (pc' := 71) (st' := [zi x288, zr 5]) (fun _ _ k => x_callVK (ci := 5) (as := [zi 6, zi 0]) (st := [zr 5]) hK8 k5_addStatement lm5_75 dX5_readStatement_68 rfl (by decide) (zs8 rfl) h0.1 ⟨_, _, rfl⟩ hc290 k) ?_
        obtain ⟨x292, M291, hc294, hK293, h⟩ := h
        refine Xi.up (pc' := 74) (st' := [zi x292]) (fun _ _ k => x_callVK (ci := 5) (as := [zi x288]) (st := []) hK289 k5_openBracket lm5_79 dX5_readStatement_71 rfl (by decide) (zs8 rfl) h0.1 ⟨_, _, rfl⟩ hc294 k) ?_
        obtain ⟨g295, h⟩ := h
        exact Xi.ret ⟨dX5_readStatement_74, Or.inr ⟨rfl, g295⟩⟩ h
    · have h := h.2 c
      refine Xi.up (pc' := 47) (fun _ _ k => x_aload_n dX5_readStatement_46 rfl rfl k) ?_
      refine Xi.up (pc' := 48) (fun _ _ k => x_aload_n dX5_readStatement_47 rfl rfl k) ?_
      refine Xi.up (pc' := 49) (fun _ _ k => x_iconst dX5_readStatement_48 (show inR 5 from ⟨by decide, by decide⟩) k) ?_
      refine Xi.up (pc' := 50) (fun _ _ k => x_iconst dX5_readStatement_49 (show inR 0 from ⟨by decide, by decide⟩) k) ?_
      obtain ⟨x297, M296, hc299, hK298, h⟩ := h
      refine Xi.up (pc' := 53) (st' := [zi x297, zr 5]) (fun _ _ k => x_callVK (ci := 5) (as := [zi 5, zi 0]) (st := [zr 5]) hK8 k5_addStatement lm5_75 dX5_readStatement_50 rfl (by decide) (zs8 rfl) h0.1 ⟨_, _, rfl⟩ hc299 k) ?_
      obtain ⟨x301, M300, hc303, hK302, h⟩ := h
      refine Xi.up (pc' := 56) (st' := [zi x301]) (fun _ _ k => x_callVK (ci := 5) (as := [zi x297]) (st := []) hK298 k5_openBracket lm5_79 dX5_readStatement_53 rfl (by decide) (zs8 rfl) h0.1 ⟨_, _, rfl⟩ hc303 k) ?_
      obtain ⟨g304, h⟩ := h
      exact Xi.ret ⟨dX5_readStatement_56, Or.inr ⟨rfl, g304⟩⟩ h
  · have h := h.2 c
    refine Xi.up (pc' := 13) (fun _ _ k => x_iconst dX5_readStatement_12 (show inR 0 from ⟨by decide, by decide⟩) k) ?_
    exact Xi.ret ⟨dX5_readStatement_13, Or.inr ⟨rfl, Or.inl rfl⟩⟩ h
set_option maxHeartbeats 4000000 in
set_option maxRecDepth 20000 in
theorem B5_addStatement {d : Nat} {K M : ZMem} {Q : Int → ZMem → Prop} (a1 : Int) (a2 : Int) (hK : KW K M) (h0 : ReaderAt K 5) (h : (((mI M 5 5) < 1 → (Ci d q4_addStatement [zr 8, zi a1, zi a2, zi (-1), zi (mI M 5 5)] M (fun x2 M1 => KW K M1 ∧ (((mI M1 5 5) < 0 → (Cv d q4_linkFirst [zr 8, zi (-1), zi x2] M1 (fun M5 => KW K M5 ∧ Cv d q5_setBefore [zr 5, zi x2] M5 (fun M8 => KW K M8 ∧ Q x2 (sI M8 5 6 0))))) ∧ (¬ ((mI M1 5 5) < 0) → ((7 ≤ (mI M1 5 5) → (Cv d q4_linkFirst [zr 8, zi (-1), zi x2] M1 (fun M12 => KW K M12 ∧ Cv d q5_setBefore [zr 5, zi x2] M12 (fun M15 => KW K M15 ∧ Q x2 (sI M15 5 6 0))))) ∧ (¬ (7 ≤ (mI M1 5 5)) → ((0 ≤ (mI M1 5 5)) ∧ ((mI M1 5 5) < 7) ∧ (((mI M1 7 (mI M1 5 5).toNat) ≠ (-1) → (Cv d q4_linkBehind [zr 8, zi (mI M1 7 (mI M1 5 5).toNat), zi x2] M1 (fun M21 => KW K M21 ∧ Cv d q5_setBefore [zr 5, zi x2] M21 (fun M24 => KW K M24 ∧ Q x2 (sI M24 5 6 0))))) ∧ (¬ ((mI M1 7 (mI M1 5 5).toNat) ≠ (-1)) → (Cv d q4_linkFirst [zr 8, zi (-1), zi x2] M1 (fun M28 => KW K M28 ∧ Cv d q5_setBefore [zr 5, zi x2] M28 (fun M31 => KW K M31 ∧ Q x2 (sI M31 5 6 0)))))))))))))) ∧ (¬ ((mI M 5 5) < 1) → ((6 < (mI M 5 5) → (Ci d q4_addStatement [zr 8, zi a1, zi a2, zi (-1), zi (mI M 5 5)] M (fun x36 M35 => KW K M35 ∧ (((mI M35 5 5) < 0 → (Cv d q4_linkFirst [zr 8, zi (-1), zi x36] M35 (fun M39 => KW K M39 ∧ Cv d q5_setBefore [zr 5, zi x36] M39 (fun M42 => KW K M42 ∧ Q x36 (sI M42 5 6 0))))) ∧ (¬ ((mI M35 5 5) < 0) → ((7 ≤ (mI M35 5 5) → (Cv d q4_linkFirst [zr 8, zi (-1), zi x36] M35 (fun M46 => KW K M46 ∧ Cv d q5_setBefore [zr 5, zi x36] M46 (fun M49 => KW K M49 ∧ Q x36 (sI M49 5 6 0))))) ∧ (¬ (7 ≤ (mI M35 5 5)) → ((0 ≤ (mI M35 5 5)) ∧ ((mI M35 5 5) < 7) ∧ (((mI M35 7 (mI M35 5 5).toNat) ≠ (-1) → (Cv d q4_linkBehind [zr 8, zi (mI M35 7 (mI M35 5 5).toNat), zi x36] M35 (fun M55 => KW K M55 ∧ Cv d q5_setBefore [zr 5, zi x36] M55 (fun M58 => KW K M58 ∧ Q x36 (sI M58 5 6 0))))) ∧ (¬ ((mI M35 7 (mI M35 5 5).toNat) ≠ (-1)) → (Cv d q4_linkFirst [zr 8, zi (-1), zi x36] M35 (fun M62 => KW K M62 ∧ Cv d q5_setBefore [zr 5, zi x36] M62 (fun M65 => KW K M65 ∧ Q x36 (sI M65 5 6 0)))))))))))))) ∧ (¬ (6 < (mI M 5 5)) → ((inR ((mI M 5 5) - 1)) ∧ (0 ≤ ((mI M 5 5) - 1)) ∧ (((mI M 5 5) - 1) < 6) ∧ Ci d q4_addStatement [zr 8, zi a1, zi a2, zi (mI M 6 ((mI M 5 5) - 1).toNat), zi (mI M 5 5)] M (fun x73 M72 => KW K M72 ∧ (((mI M72 5 5) < 0 → (Cv d q4_linkFirst [zr 8, zi (mI M 6 ((mI M 5 5) - 1).toNat), zi x73] M72 (fun M76 => KW K M76 ∧ Cv d q5_setBefore [zr 5, zi x73] M76 (fun M79 => KW K M79 ∧ Q x73 (sI M79 5 6 0))))) ∧ (¬ ((mI M72 5 5) < 0) → ((7 ≤ (mI M72 5 5) → (Cv d q4_linkFirst [zr 8, zi (mI M 6 ((mI M 5 5) - 1).toNat), zi x73] M72 (fun M83 => KW K M83 ∧ Cv d q5_setBefore [zr 5, zi x73] M83 (fun M86 => KW K M86 ∧ Q x73 (sI M86 5 6 0))))) ∧ (¬ (7 ≤ (mI M72 5 5)) → ((0 ≤ (mI M72 5 5)) ∧ ((mI M72 5 5) < 7) ∧ (((mI M72 7 (mI M72 5 5).toNat) ≠ (-1) → (Cv d q4_linkBehind [zr 8, zi (mI M72 7 (mI M72 5 5).toNat), zi x73] M72 (fun M92 => KW K M92 ∧ Cv d q5_setBefore [zr 5, zi x73] M92 (fun M95 => KW K M95 ∧ Q x73 (sI M95 5 6 0))))) ∧ (¬ ((mI M72 7 (mI M72 5 5).toNat) ≠ (-1)) → (Cv d q4_linkFirst [zr 8, zi (mI M 6 ((mI M 5 5) - 1).toNat), zi x73] M72 (fun M99 => KW K M99 ∧ Cv d q5_setBefore [zr 5, zi x73] M99 (fun M102 => KW K M102 ∧ Q x73 (sI M102 5 6 0)))))))))))))))))) : Ci (d + 1) q5_addStatement [zr 5, zi a1, zi a2] M Q := by
  refine Ci.of rfl rfl (Nat.le_of_ble_eq_true rfl) (fun w hw x e => by subst e; simp at hw) (L := [some (zr 5), some (zi a1), some (zi a2), none, none, none]) rfl ?_
  refine Xi.up (pc' := 1) (fun _ _ k => x_aload_n dX5_addStatement_0 rfl rfl k) ?_
  refine Xi.up (pc' := 4) (fun _ _ k => x_getIK hK lf5_36 rfl dX5_addStatement_1 h0.1 k) ?_
  refine Xi.up (pc' := 5) (fun _ _ k => x_iconst dX5_addStatement_4 (show inR 1 from ⟨by decide, by decide⟩) k) ?_
  refine Xi.br (tgt := 34) (pc' := 8) ((mI M 5 5) < 1) (fun _ _ kt kf => x_icmp_lt dX5_addStatement_5 rfl kt kf) (fun c => ?_) (fun c => ?_)
  · have h := h.1 c
    refine Xi.up (pc' := 35) (fun _ _ k => x_iconst dX5_addStatement_34 (show inR (-1) from ⟨by decide, by decide⟩) k) ?_
    refine Xi.up (pc' := 36) (L' := [some (zr 5), some (zi a1), some (zi a2), some (zi (-1)), none, none]) (fun _ _ k => x_istore_n dX5_addStatement_35 rfl (by decide) rfl k) ?_
    refine Xi.up (pc' := 37) (fun _ _ k => x_aload_n dX5_addStatement_36 rfl rfl k) ?_
    refine Xi.up (pc' := 40) (fun _ _ k => x_getRK hK lf5_25 rfl dX5_addStatement_37 h0.1 h0.2.2.2.2.1 k) ?_
    refine Xi.up (pc' := 41) (fun _ _ k => x_iload_n dX5_addStatement_40 rfl rfl k) ?_
    refine Xi.up (pc' := 42) (fun _ _ k => x_iload_n dX5_addStatement_41 rfl rfl k) ?_
    refine Xi.up (pc' := 43) (fun _ _ k => x_iload_n dX5_addStatement_42 rfl rfl k) ?_
    refine Xi.up (pc' := 44) (fun _ _ k => x_aload_n dX5_addStatement_43 rfl rfl k) ?_
    refine Xi.up (pc' := 47) (fun _ _ k => x_getIK hK lf5_36 rfl dX5_addStatement_44 h0.1 k) ?_
    obtain ⟨x2, M1, hc4, hK3, h⟩ := h
    refine Xi.up (pc' := 50) (st' := [zi x2]) (fun _ _ k => x_callVK (ci := 4) (as := [zi a1, zi a2, zi (-1), zi (mI M 5 5)]) (st := []) hK k4_addStatement lm5_95 dX5_addStatement_47 rfl (by decide) (zs8 rfl) h0.2.2.2.2.2.2.2.2.1 ⟨_, _, rfl⟩ hc4 k) ?_
    refine Xi.up (pc' := 52) (L' := [some (zr 5), some (zi a1), some (zi a2), some (zi (-1)), some (zi x2), none]) (fun _ _ k => x_istore dX5_addStatement_50 (by decide) rfl k) ?_
    refine Xi.up (pc' := 53) (fun _ _ k => x_aload_n dX5_addStatement_52 rfl rfl k) ?_
    refine Xi.up (pc' := 56) (fun _ _ k => x_getIK hK3 lf5_36 rfl dX5_addStatement_53 h0.1 k) ?_
    refine Xi.br (tgt := 83) (pc' := 59) ((mI M1 5 5) < 0) (fun _ _ kt kf => x_if_lt dX5_addStatement_56 rfl kt kf) (fun c => ?_) (fun c => ?_)
    · have h := h.1 c
      refine Xi.up (pc' := 84) (fun _ _ k => x_iconst dX5_addStatement_83 (show inR (-1) from ⟨by decide, by decide⟩) k) ?_
      refine Xi.up (pc' := 86) (L' := [some (zr 5), some (zi a1), some (zi a2), some (zi (-1)), some (zi x2), some (zi (-1))]) (fun _ _ k => x_istore dX5_addStatement_84 (by decide) rfl k) ?_
      refine Xi.up (pc' := 88) (fun _ _ k => x_iload dX5_addStatement_86 rfl k) ?_
      refine Xi.up (pc' := 89) (fun _ _ k => x_iconst dX5_addStatement_88 (show inR (-1) from ⟨by decide, by decide⟩) k) ?_
      refine Xi.br (tgt := 105) (pc' := 92) (((-1) : Int) ≠ (-1)) (fun _ _ kt kf => x_icmp_ne dX5_addStatement_89 rfl kt kf) (fun c => absurd c (by decide)) (fun _ => ?_)
      refine Xi.up (pc' := 93) (fun _ _ k => x_aload_n dX5_addStatement_92 rfl rfl k) ?_
      refine Xi.up (pc' := 96) (fun _ _ k => x_getRK hK3 lf5_25 rfl dX5_addStatement_93 h0.1 h0.2.2.2.2.1 k) ?_
      refine Xi.up (pc' := 97) (fun _ _ k => x_iload_n dX5_addStatement_96 rfl rfl k) ?_
      refine Xi.up (pc' := 99) (fun _ _ k => x_iload dX5_addStatement_97 rfl k) ?_
      obtain ⟨M5, hc7, hK6, h⟩ := h
      refine Xi.up (pc' := 102) (st' := []) (fun _ _ k => x_callVK (ci := 4) (as := [zi (-1), zi x2]) (st := []) hK3 k4_linkFirst lm5_98 dX5_addStatement_99 rfl (by decide) (zs8 rfl) h0.2.2.2.2.2.2.2.2.1 ⟨_, _, rfl⟩ hc7 k) ?_
      refine Xi.up (pc' := 116) (fun _ _ k => x_goto dX5_addStatement_102 rfl k) ?_
      refine Xi.up (pc' := 117) (fun _ _ k => x_aload_n dX5_addStatement_116 rfl rfl k) ?_
      refine Xi.up (pc' := 119) (fun _ _ k => x_iload dX5_addStatement_117 rfl k) ?_
      obtain ⟨M8, hc10, hK9, h⟩ := h
      refine Xi.up (pc' := 122) (st' := []) (fun _ _ k => x_callVK (ci := 5) (as := [zi x2]) (st := []) hK6 k5_setBefore lm5_46 dX5_addStatement_119 rfl (by decide) (zs8 rfl) h0.1 ⟨_, _, rfl⟩ hc10 k) ?_
      refine Xi.up (pc' := 123) (fun _ _ k => x_aload_n dX5_addStatement_122 rfl rfl k) ?_
      refine Xi.up (pc' := 124) (fun _ _ k => x_iconst dX5_addStatement_123 (show inR 0 from ⟨by decide, by decide⟩) k) ?_
      refine Xi.up (pc' := 127) (fun _ _ k => x_putIK hK9 lf5_39 rfl rfl (Or.inr (Or.inl rfl)) dX5_addStatement_124 h0.1 k) ?_
      have hK11 := KW.sI hK9 5 6 0
      refine Xi.up (pc' := 129) (fun _ _ k => x_iload dX5_addStatement_127 rfl k) ?_
      exact Xi.ret ⟨dX5_addStatement_129, Or.inl rfl⟩ h
    · have h := h.2 c
      refine Xi.up (pc' := 60) (fun _ _ k => x_aload_n dX5_addStatement_59 rfl rfl k) ?_
      refine Xi.up (pc' := 63) (fun _ _ k => x_getIK hK3 lf5_36 rfl dX5_addStatement_60 h0.1 k) ?_
      refine Xi.up (pc' := 64) (fun _ _ k => x_aload_n dX5_addStatement_63 rfl rfl k) ?_
      refine Xi.up (pc' := 67) (fun _ _ k => x_getRK hK3 lf5_19 rfl dX5_addStatement_64 h0.1 h0.2.2.2.1 k) ?_
      refine Xi.up (pc' := 68) (fun _ _ k => x_alenK hK3 dX5_addStatement_67 h0.2.2.2.2.2.2.1 (by decide) (by decide) k) ?_
      refine Xi.br (tgt := 83) (pc' := 71) (7 ≤ (mI M1 5 5)) (fun _ _ kt kf => x_icmp_ge dX5_addStatement_68 rfl kt kf) (fun c => ?_) (fun c => ?_)
      · have h := h.1 c
        refine Xi.up (pc' := 84) (fun _ _ k => x_iconst dX5_addStatement_83 (show inR (-1) from ⟨by decide, by decide⟩) k) ?_
        refine Xi.up (pc' := 86) (L' := [some (zr 5), some (zi a1), some (zi a2), some (zi (-1)), some (zi x2), some (zi (-1))]) (fun _ _ k => x_istore dX5_addStatement_84 (by decide) rfl k) ?_
        refine Xi.up (pc' := 88) (fun _ _ k => x_iload dX5_addStatement_86 rfl k) ?_
        refine Xi.up (pc' := 89) (fun _ _ k => x_iconst dX5_addStatement_88 (show inR (-1) from ⟨by decide, by decide⟩) k) ?_
        refine Xi.br (tgt := 105) (pc' := 92) (((-1) : Int) ≠ (-1)) (fun _ _ kt kf => x_icmp_ne dX5_addStatement_89 rfl kt kf) (fun c => absurd c (by decide)) (fun _ => ?_)
        refine Xi.up (pc' := 93) (fun _ _ k => x_aload_n dX5_addStatement_92 rfl rfl k) ?_
        refine Xi.up (pc' := 96) (fun _ _ k => x_getRK hK3 lf5_25 rfl dX5_addStatement_93 h0.1 h0.2.2.2.2.1 k) ?_
        refine Xi.up (pc' := 97) (fun _ _ k => x_iload_n dX5_addStatement_96 rfl rfl k) ?_
        refine Xi.up (pc' := 99) (fun _ _ k => x_iload dX5_addStatement_97 rfl k) ?_
        obtain ⟨M12, hc14, hK13, h⟩ := h
        refine Xi.up (pc' := 102) (st' := []) (fun _ _ k => x_callVK (ci := 4) (as := [zi (-1), zi x2]) (st := []) hK3 k4_linkFirst lm5_98 dX5_addStatement_99 rfl (by decide) (zs8 rfl) h0.2.2.2.2.2.2.2.2.1 ⟨_, _, rfl⟩ hc14 k) ?_
        refine Xi.up (pc' := 116) (fun _ _ k => x_goto dX5_addStatement_102 rfl k) ?_
        refine Xi.up (pc' := 117) (fun _ _ k => x_aload_n dX5_addStatement_116 rfl rfl k) ?_
        refine Xi.up (pc' := 119) (fun _ _ k => x_iload dX5_addStatement_117 rfl k) ?_
        obtain ⟨M15, hc17, hK16, h⟩ := h
        refine Xi.up (pc' := 122) (st' := []) (fun _ _ k => x_callVK (ci := 5) (as := [zi x2]) (st := []) hK13 k5_setBefore lm5_46 dX5_addStatement_119 rfl (by decide) (zs8 rfl) h0.1 ⟨_, _, rfl⟩ hc17 k) ?_
        refine Xi.up (pc' := 123) (fun _ _ k => x_aload_n dX5_addStatement_122 rfl rfl k) ?_
        refine Xi.up (pc' := 124) (fun _ _ k => x_iconst dX5_addStatement_123 (show inR 0 from ⟨by decide, by decide⟩) k) ?_
        refine Xi.up (pc' := 127) (fun _ _ k => x_putIK hK16 lf5_39 rfl rfl (Or.inr (Or.inl rfl)) dX5_addStatement_124 h0.1 k) ?_
        have hK18 := KW.sI hK16 5 6 0
        refine Xi.up (pc' := 129) (fun _ _ k => x_iload dX5_addStatement_127 rfl k) ?_
        exact Xi.ret ⟨dX5_addStatement_129, Or.inl rfl⟩ h
      · have h := h.2 c
        refine Xi.up (pc' := 72) (fun _ _ k => x_aload_n dX5_addStatement_71 rfl rfl k) ?_
        refine Xi.up (pc' := 75) (fun _ _ k => x_getRK hK3 lf5_19 rfl dX5_addStatement_72 h0.1 h0.2.2.2.1 k) ?_
        refine Xi.up (pc' := 76) (fun _ _ k => x_aload_n dX5_addStatement_75 rfl rfl k) ?_
        refine Xi.up (pc' := 79) (fun _ _ k => x_getIK hK3 lf5_36 rfl dX5_addStatement_76 h0.1 k) ?_
        obtain ⟨g19, h⟩ := h
        obtain ⟨g20, h⟩ := h
        refine Xi.up (pc' := 80) (fun _ _ k => x_ialoadK hK3 dX5_addStatement_79 h0.2.2.2.2.2.2.1 g19 g20 k) ?_
        refine Xi.up (pc' := 84) (fun _ _ k => x_goto dX5_addStatement_80 rfl k) ?_
        refine Xi.up (pc' := 86) (L' := [some (zr 5), some (zi a1), some (zi a2), some (zi (-1)), some (zi x2), some (zi (mI M1 7 (mI M1 5 5).toNat))]) (fun _ _ k => x_istore dX5_addStatement_84 (by decide) rfl k) ?_
        refine Xi.up (pc' := 88) (fun _ _ k => x_iload dX5_addStatement_86 rfl k) ?_
        refine Xi.up (pc' := 89) (fun _ _ k => x_iconst dX5_addStatement_88 (show inR (-1) from ⟨by decide, by decide⟩) k) ?_
        refine Xi.br (tgt := 105) (pc' := 92) ((mI M1 7 (mI M1 5 5).toNat) ≠ (-1)) (fun _ _ kt kf => x_icmp_ne dX5_addStatement_89 rfl kt kf) (fun c => ?_) (fun c => ?_)
        · have h := h.1 c
          refine Xi.up (pc' := 106) (fun _ _ k => x_aload_n dX5_addStatement_105 rfl rfl k) ?_
          refine Xi.up (pc' := 109) (fun _ _ k => x_getRK hK3 lf5_25 rfl dX5_addStatement_106 h0.1 h0.2.2.2.2.1 k) ?_
          refine Xi.up (pc' := 111) (fun _ _ k => x_iload dX5_addStatement_109 rfl k) ?_
          refine Xi.up (pc' := 113) (fun _ _ k => x_iload dX5_addStatement_111 rfl k) ?_
          obtain ⟨M21, hc23, hK22, h⟩ := h
          refine Xi.up (pc' := 116) (st' := []) (fun _ _ k => x_callVK (ci := 4) (as := [zi (mI M1 7 (mI M1 5 5).toNat), zi x2]) (st := []) hK3 k4_linkBehind lm5_102 dX5_addStatement_113 rfl (by decide) (zs8 rfl) h0.2.2.2.2.2.2.2.2.1 ⟨_, _, rfl⟩ hc23 k) ?_
          refine Xi.up (pc' := 117) (fun _ _ k => x_aload_n dX5_addStatement_116 rfl rfl k) ?_
          refine Xi.up (pc' := 119) (fun _ _ k => x_iload dX5_addStatement_117 rfl k) ?_
          obtain ⟨M24, hc26, hK25, h⟩ := h
          refine Xi.up (pc' := 122) (st' := []) (fun _ _ k => x_callVK (ci := 5) (as := [zi x2]) (st := []) hK22 k5_setBefore lm5_46 dX5_addStatement_119 rfl (by decide) (zs8 rfl) h0.1 ⟨_, _, rfl⟩ hc26 k) ?_
          refine Xi.up (pc' := 123) (fun _ _ k => x_aload_n dX5_addStatement_122 rfl rfl k) ?_
          refine Xi.up (pc' := 124) (fun _ _ k => x_iconst dX5_addStatement_123 (show inR 0 from ⟨by decide, by decide⟩) k) ?_
          refine Xi.up (pc' := 127) (fun _ _ k => x_putIK hK25 lf5_39 rfl rfl (Or.inr (Or.inl rfl)) dX5_addStatement_124 h0.1 k) ?_
          have hK27 := KW.sI hK25 5 6 0
          refine Xi.up (pc' := 129) (fun _ _ k => x_iload dX5_addStatement_127 rfl k) ?_
          exact Xi.ret ⟨dX5_addStatement_129, Or.inl rfl⟩ h
        · have h := h.2 c
          refine Xi.up (pc' := 93) (fun _ _ k => x_aload_n dX5_addStatement_92 rfl rfl k) ?_
          refine Xi.up (pc' := 96) (fun _ _ k => x_getRK hK3 lf5_25 rfl dX5_addStatement_93 h0.1 h0.2.2.2.2.1 k) ?_
          refine Xi.up (pc' := 97) (fun _ _ k => x_iload_n dX5_addStatement_96 rfl rfl k) ?_
          refine Xi.up (pc' := 99) (fun _ _ k => x_iload dX5_addStatement_97 rfl k) ?_
          obtain ⟨M28, hc30, hK29, h⟩ := h
          refine Xi.up (pc' := 102) (st' := []) (fun _ _ k => x_callVK (ci := 4) (as := [zi (-1), zi x2]) (st := []) hK3 k4_linkFirst lm5_98 dX5_addStatement_99 rfl (by decide) (zs8 rfl) h0.2.2.2.2.2.2.2.2.1 ⟨_, _, rfl⟩ hc30 k) ?_
          refine Xi.up (pc' := 116) (fun _ _ k => x_goto dX5_addStatement_102 rfl k) ?_
          refine Xi.up (pc' := 117) (fun _ _ k => x_aload_n dX5_addStatement_116 rfl rfl k) ?_
          refine Xi.up (pc' := 119) (fun _ _ k => x_iload dX5_addStatement_117 rfl k) ?_
          obtain ⟨M31, hc33, hK32, h⟩ := h
          refine Xi.up (pc' := 122) (st' := []) (fun _ _ k => x_callVK (ci := 5) (as := [zi x2]) (st := []) hK29 k5_setBefore lm5_46 dX5_addStatement_119 rfl (by decide) (zs8 rfl) h0.1 ⟨_, _, rfl⟩ hc33 k) ?_
          refine Xi.up (pc' := 123) (fun _ _ k => x_aload_n dX5_addStatement_122 rfl rfl k) ?_
          refine Xi.up (pc' := 124) (fun _ _ k => x_iconst dX5_addStatement_123 (show inR 0 from ⟨by decide, by decide⟩) k) ?_
          refine Xi.up (pc' := 127) (fun _ _ k => x_putIK hK32 lf5_39 rfl rfl (Or.inr (Or.inl rfl)) dX5_addStatement_124 h0.1 k) ?_
          have hK34 := KW.sI hK32 5 6 0
          refine Xi.up (pc' := 129) (fun _ _ k => x_iload dX5_addStatement_127 rfl k) ?_
          exact Xi.ret ⟨dX5_addStatement_129, Or.inl rfl⟩ h
  · have h := h.2 c
    refine Xi.up (pc' := 9) (fun _ _ k => x_aload_n dX5_addStatement_8 rfl rfl k) ?_
    refine Xi.up (pc' := 12) (fun _ _ k => x_getIK hK lf5_36 rfl dX5_addStatement_9 h0.1 k) ?_
    refine Xi.up (pc' := 13) (fun _ _ k => x_aload_n dX5_addStatement_12 rfl rfl k) ?_
    refine Xi.up (pc' := 16) (fun _ _ k => x_getRK hK lf5_15 rfl dX5_addStatement_13 h0.1 h0.2.2.1 k) ?_
    refine Xi.up (pc' := 17) (fun _ _ k => x_alenK hK dX5_addStatement_16 h0.2.2.2.2.2.1 (by decide) (by decide) k) ?_
    refine Xi.br (tgt := 34) (pc' := 20) (6 < (mI M 5 5)) (fun _ _ kt kf => x_icmp_gt dX5_addStatement_17 rfl kt kf) (fun c => ?_) (fun c => ?_)
    · have h := h.1 c
      refine Xi.up (pc' := 35) (fun _ _ k => x_iconst dX5_addStatement_34 (show inR (-1) from ⟨by decide, by decide⟩) k) ?_
      refine Xi.up (pc' := 36) (L' := [some (zr 5), some (zi a1), some (zi a2), some (zi (-1)), none, none]) (fun _ _ k => x_istore_n dX5_addStatement_35 rfl (by decide) rfl k) ?_
      refine Xi.up (pc' := 37) (fun _ _ k => x_aload_n dX5_addStatement_36 rfl rfl k) ?_
      refine Xi.up (pc' := 40) (fun _ _ k => x_getRK hK lf5_25 rfl dX5_addStatement_37 h0.1 h0.2.2.2.2.1 k) ?_
      refine Xi.up (pc' := 41) (fun _ _ k => x_iload_n dX5_addStatement_40 rfl rfl k) ?_
      refine Xi.up (pc' := 42) (fun _ _ k => x_iload_n dX5_addStatement_41 rfl rfl k) ?_
      refine Xi.up (pc' := 43) (fun _ _ k => x_iload_n dX5_addStatement_42 rfl rfl k) ?_
      refine Xi.up (pc' := 44) (fun _ _ k => x_aload_n dX5_addStatement_43 rfl rfl k) ?_
      refine Xi.up (pc' := 47) (fun _ _ k => x_getIK hK lf5_36 rfl dX5_addStatement_44 h0.1 k) ?_
      obtain ⟨x36, M35, hc38, hK37, h⟩ := h
      refine Xi.up (pc' := 50) (st' := [zi x36]) (fun _ _ k => x_callVK (ci := 4) (as := [zi a1, zi a2, zi (-1), zi (mI M 5 5)]) (st := []) hK k4_addStatement lm5_95 dX5_addStatement_47 rfl (by decide) (zs8 rfl) h0.2.2.2.2.2.2.2.2.1 ⟨_, _, rfl⟩ hc38 k) ?_
      refine Xi.up (pc' := 52) (L' := [some (zr 5), some (zi a1), some (zi a2), some (zi (-1)), some (zi x36), none]) (fun _ _ k => x_istore dX5_addStatement_50 (by decide) rfl k) ?_
      refine Xi.up (pc' := 53) (fun _ _ k => x_aload_n dX5_addStatement_52 rfl rfl k) ?_
      refine Xi.up (pc' := 56) (fun _ _ k => x_getIK hK37 lf5_36 rfl dX5_addStatement_53 h0.1 k) ?_
      refine Xi.br (tgt := 83) (pc' := 59) ((mI M35 5 5) < 0) (fun _ _ kt kf => x_if_lt dX5_addStatement_56 rfl kt kf) (fun c => ?_) (fun c => ?_)
      · have h := h.1 c
        refine Xi.up (pc' := 84) (fun _ _ k => x_iconst dX5_addStatement_83 (show inR (-1) from ⟨by decide, by decide⟩) k) ?_
        refine Xi.up (pc' := 86) (L' := [some (zr 5), some (zi a1), some (zi a2), some (zi (-1)), some (zi x36), some (zi (-1))]) (fun _ _ k => x_istore dX5_addStatement_84 (by decide) rfl k) ?_
        refine Xi.up (pc' := 88) (fun _ _ k => x_iload dX5_addStatement_86 rfl k) ?_
        refine Xi.up (pc' := 89) (fun _ _ k => x_iconst dX5_addStatement_88 (show inR (-1) from ⟨by decide, by decide⟩) k) ?_
        refine Xi.br (tgt := 105) (pc' := 92) (((-1) : Int) ≠ (-1)) (fun _ _ kt kf => x_icmp_ne dX5_addStatement_89 rfl kt kf) (fun c => absurd c (by decide)) (fun _ => ?_)
        refine Xi.up (pc' := 93) (fun _ _ k => x_aload_n dX5_addStatement_92 rfl rfl k) ?_
        refine Xi.up (pc' := 96) (fun _ _ k => x_getRK hK37 lf5_25 rfl dX5_addStatement_93 h0.1 h0.2.2.2.2.1 k) ?_
        refine Xi.up (pc' := 97) (fun _ _ k => x_iload_n dX5_addStatement_96 rfl rfl k) ?_
        refine Xi.up (pc' := 99) (fun _ _ k => x_iload dX5_addStatement_97 rfl k) ?_
        obtain ⟨M39, hc41, hK40, h⟩ := h
        refine Xi.up (pc' := 102) (st' := []) (fun _ _ k => x_callVK (ci := 4) (as := [zi (-1), zi x36]) (st := []) hK37 k4_linkFirst lm5_98 dX5_addStatement_99 rfl (by decide) (zs8 rfl) h0.2.2.2.2.2.2.2.2.1 ⟨_, _, rfl⟩ hc41 k) ?_
        refine Xi.up (pc' := 116) (fun _ _ k => x_goto dX5_addStatement_102 rfl k) ?_
        refine Xi.up (pc' := 117) (fun _ _ k => x_aload_n dX5_addStatement_116 rfl rfl k) ?_
        refine Xi.up (pc' := 119) (fun _ _ k => x_iload dX5_addStatement_117 rfl k) ?_
        obtain ⟨M42, hc44, hK43, h⟩ := h
        refine Xi.up (pc' := 122) (st' := []) (fun _ _ k => x_callVK (ci := 5) (as := [zi x36]) (st := []) hK40 k5_setBefore lm5_46 dX5_addStatement_119 rfl (by decide) (zs8 rfl) h0.1 ⟨_, _, rfl⟩ hc44 k) ?_
        refine Xi.up (pc' := 123) (fun _ _ k => x_aload_n dX5_addStatement_122 rfl rfl k) ?_
        refine Xi.up (pc' := 124) (fun _ _ k => x_iconst dX5_addStatement_123 (show inR 0 from ⟨by decide, by decide⟩) k) ?_
        refine Xi.up (pc' := 127) (fun _ _ k => x_putIK hK43 lf5_39 rfl rfl (Or.inr (Or.inl rfl)) dX5_addStatement_124 h0.1 k) ?_
        have hK45 := KW.sI hK43 5 6 0
        refine Xi.up (pc' := 129) (fun _ _ k => x_iload dX5_addStatement_127 rfl k) ?_
        exact Xi.ret ⟨dX5_addStatement_129, Or.inl rfl⟩ h
      · have h := h.2 c
        refine Xi.up (pc' := 60) (fun _ _ k => x_aload_n dX5_addStatement_59 rfl rfl k) ?_
        refine Xi.up (pc' := 63) (fun _ _ k => x_getIK hK37 lf5_36 rfl dX5_addStatement_60 h0.1 k) ?_
        refine Xi.up (pc' := 64) (fun _ _ k => x_aload_n dX5_addStatement_63 rfl rfl k) ?_
        refine Xi.up (pc' := 67) (fun _ _ k => x_getRK hK37 lf5_19 rfl dX5_addStatement_64 h0.1 h0.2.2.2.1 k) ?_
        refine Xi.up (pc' := 68) (fun _ _ k => x_alenK hK37 dX5_addStatement_67 h0.2.2.2.2.2.2.1 (by decide) (by decide) k) ?_
        refine Xi.br (tgt := 83) (pc' := 71) (7 ≤ (mI M35 5 5)) (fun _ _ kt kf => x_icmp_ge dX5_addStatement_68 rfl kt kf) (fun c => ?_) (fun c => ?_)
        · have h := h.1 c
          refine Xi.up (pc' := 84) (fun _ _ k => x_iconst dX5_addStatement_83 (show inR (-1) from ⟨by decide, by decide⟩) k) ?_
          refine Xi.up (pc' := 86) (L' := [some (zr 5), some (zi a1), some (zi a2), some (zi (-1)), some (zi x36), some (zi (-1))]) (fun _ _ k => x_istore dX5_addStatement_84 (by decide) rfl k) ?_
          refine Xi.up (pc' := 88) (fun _ _ k => x_iload dX5_addStatement_86 rfl k) ?_
          refine Xi.up (pc' := 89) (fun _ _ k => x_iconst dX5_addStatement_88 (show inR (-1) from ⟨by decide, by decide⟩) k) ?_
          refine Xi.br (tgt := 105) (pc' := 92) (((-1) : Int) ≠ (-1)) (fun _ _ kt kf => x_icmp_ne dX5_addStatement_89 rfl kt kf) (fun c => absurd c (by decide)) (fun _ => ?_)
          refine Xi.up (pc' := 93) (fun _ _ k => x_aload_n dX5_addStatement_92 rfl rfl k) ?_
          refine Xi.up (pc' := 96) (fun _ _ k => x_getRK hK37 lf5_25 rfl dX5_addStatement_93 h0.1 h0.2.2.2.2.1 k) ?_
          refine Xi.up (pc' := 97) (fun _ _ k => x_iload_n dX5_addStatement_96 rfl rfl k) ?_
          refine Xi.up (pc' := 99) (fun _ _ k => x_iload dX5_addStatement_97 rfl k) ?_
          obtain ⟨M46, hc48, hK47, h⟩ := h
          refine Xi.up (pc' := 102) (st' := []) (fun _ _ k => x_callVK (ci := 4) (as := [zi (-1), zi x36]) (st := []) hK37 k4_linkFirst lm5_98 dX5_addStatement_99 rfl (by decide) (zs8 rfl) h0.2.2.2.2.2.2.2.2.1 ⟨_, _, rfl⟩ hc48 k) ?_
          refine Xi.up (pc' := 116) (fun _ _ k => x_goto dX5_addStatement_102 rfl k) ?_
          refine Xi.up (pc' := 117) (fun _ _ k => x_aload_n dX5_addStatement_116 rfl rfl k) ?_
          refine Xi.up (pc' := 119) (fun _ _ k => x_iload dX5_addStatement_117 rfl k) ?_
          obtain ⟨M49, hc51, hK50, h⟩ := h
          refine Xi.up (pc' := 122) (st' := []) (fun _ _ k => x_callVK (ci := 5) (as := [zi x36]) (st := []) hK47 k5_setBefore lm5_46 dX5_addStatement_119 rfl (by decide) (zs8 rfl) h0.1 ⟨_, _, rfl⟩ hc51 k) ?_
          refine Xi.up (pc' := 123) (fun _ _ k => x_aload_n dX5_addStatement_122 rfl rfl k) ?_
          refine Xi.up (pc' := 124) (fun _ _ k => x_iconst dX5_addStatement_123 (show inR 0 from ⟨by decide, by decide⟩) k) ?_
          refine Xi.up (pc' := 127) (fun _ _ k => x_putIK hK50 lf5_39 rfl rfl (Or.inr (Or.inl rfl)) dX5_addStatement_124 h0.1 k) ?_
          have hK52 := KW.sI hK50 5 6 0
          refine Xi.up (pc' := 129) (fun _ _ k => x_iload dX5_addStatement_127 rfl k) ?_
          exact Xi.ret ⟨dX5_addStatement_129, Or.inl rfl⟩ h
        · have h := h.2 c
          refine Xi.up (pc' := 72) (fun _ _ k => x_aload_n dX5_addStatement_71 rfl rfl k) ?_
          refine Xi.up (pc' := 75) (fun _ _ k => x_getRK hK37 lf5_19 rfl dX5_addStatement_72 h0.1 h0.2.2.2.1 k) ?_
          refine Xi.up (pc' := 76) (fun _ _ k => x_aload_n dX5_addStatement_75 rfl rfl k) ?_
          refine Xi.up (pc' := 79) (fun _ _ k => x_getIK hK37 lf5_36 rfl dX5_addStatement_76 h0.1 k) ?_
          obtain ⟨g53, h⟩ := h
          obtain ⟨g54, h⟩ := h
          refine Xi.up (pc' := 80) (fun _ _ k => x_ialoadK hK37 dX5_addStatement_79 h0.2.2.2.2.2.2.1 g53 g54 k) ?_
          refine Xi.up (pc' := 84) (fun _ _ k => x_goto dX5_addStatement_80 rfl k) ?_
          refine Xi.up (pc' := 86) (L' := [some (zr 5), some (zi a1), some (zi a2), some (zi (-1)), some (zi x36), some (zi (mI M35 7 (mI M35 5 5).toNat))]) (fun _ _ k => x_istore dX5_addStatement_84 (by decide) rfl k) ?_
          refine Xi.up (pc' := 88) (fun _ _ k => x_iload dX5_addStatement_86 rfl k) ?_
          refine Xi.up (pc' := 89) (fun _ _ k => x_iconst dX5_addStatement_88 (show inR (-1) from ⟨by decide, by decide⟩) k) ?_
          refine Xi.br (tgt := 105) (pc' := 92) ((mI M35 7 (mI M35 5 5).toNat) ≠ (-1)) (fun _ _ kt kf => x_icmp_ne dX5_addStatement_89 rfl kt kf) (fun c => ?_) (fun c => ?_)
          · have h := h.1 c
            refine Xi.up (pc' := 106) (fun _ _ k => x_aload_n dX5_addStatement_105 rfl rfl k) ?_
            refine Xi.up (pc' := 109) (fun _ _ k => x_getRK hK37 lf5_25 rfl dX5_addStatement_106 h0.1 h0.2.2.2.2.1 k) ?_
            refine Xi.up (pc' := 111) (fun _ _ k => x_iload dX5_addStatement_109 rfl k) ?_
            refine Xi.up (pc' := 113) (fun _ _ k => x_iload dX5_addStatement_111 rfl k) ?_
            obtain ⟨M55, hc57, hK56, h⟩ := h
            refine Xi.up (pc' := 116) (st' := []) (fun _ _ k => x_callVK (ci := 4) (as := [zi (mI M35 7 (mI M35 5 5).toNat), zi x36]) (st := []) hK37 k4_linkBehind lm5_102 dX5_addStatement_113 rfl (by decide) (zs8 rfl) h0.2.2.2.2.2.2.2.2.1 ⟨_, _, rfl⟩ hc57 k) ?_
            refine Xi.up (pc' := 117) (fun _ _ k => x_aload_n dX5_addStatement_116 rfl rfl k) ?_
            refine Xi.up (pc' := 119) (fun _ _ k => x_iload dX5_addStatement_117 rfl k) ?_
            obtain ⟨M58, hc60, hK59, h⟩ := h
            refine Xi.up (pc' := 122) (st' := []) (fun _ _ k => x_callVK (ci := 5) (as := [zi x36]) (st := []) hK56 k5_setBefore lm5_46 dX5_addStatement_119 rfl (by decide) (zs8 rfl) h0.1 ⟨_, _, rfl⟩ hc60 k) ?_
            refine Xi.up (pc' := 123) (fun _ _ k => x_aload_n dX5_addStatement_122 rfl rfl k) ?_
            refine Xi.up (pc' := 124) (fun _ _ k => x_iconst dX5_addStatement_123 (show inR 0 from ⟨by decide, by decide⟩) k) ?_
            refine Xi.up (pc' := 127) (fun _ _ k => x_putIK hK59 lf5_39 rfl rfl (Or.inr (Or.inl rfl)) dX5_addStatement_124 h0.1 k) ?_
            have hK61 := KW.sI hK59 5 6 0
            refine Xi.up (pc' := 129) (fun _ _ k => x_iload dX5_addStatement_127 rfl k) ?_
            exact Xi.ret ⟨dX5_addStatement_129, Or.inl rfl⟩ h
          · have h := h.2 c
            refine Xi.up (pc' := 93) (fun _ _ k => x_aload_n dX5_addStatement_92 rfl rfl k) ?_
            refine Xi.up (pc' := 96) (fun _ _ k => x_getRK hK37 lf5_25 rfl dX5_addStatement_93 h0.1 h0.2.2.2.2.1 k) ?_
            refine Xi.up (pc' := 97) (fun _ _ k => x_iload_n dX5_addStatement_96 rfl rfl k) ?_
            refine Xi.up (pc' := 99) (fun _ _ k => x_iload dX5_addStatement_97 rfl k) ?_
            obtain ⟨M62, hc64, hK63, h⟩ := h
            refine Xi.up (pc' := 102) (st' := []) (fun _ _ k => x_callVK (ci := 4) (as := [zi (-1), zi x36]) (st := []) hK37 k4_linkFirst lm5_98 dX5_addStatement_99 rfl (by decide) (zs8 rfl) h0.2.2.2.2.2.2.2.2.1 ⟨_, _, rfl⟩ hc64 k) ?_
            refine Xi.up (pc' := 116) (fun _ _ k => x_goto dX5_addStatement_102 rfl k) ?_
            refine Xi.up (pc' := 117) (fun _ _ k => x_aload_n dX5_addStatement_116 rfl rfl k) ?_
            refine Xi.up (pc' := 119) (fun _ _ k => x_iload dX5_addStatement_117 rfl k) ?_
            obtain ⟨M65, hc67, hK66, h⟩ := h
            refine Xi.up (pc' := 122) (st' := []) (fun _ _ k => x_callVK (ci := 5) (as := [zi x36]) (st := []) hK63 k5_setBefore lm5_46 dX5_addStatement_119 rfl (by decide) (zs8 rfl) h0.1 ⟨_, _, rfl⟩ hc67 k) ?_
            refine Xi.up (pc' := 123) (fun _ _ k => x_aload_n dX5_addStatement_122 rfl rfl k) ?_
            refine Xi.up (pc' := 124) (fun _ _ k => x_iconst dX5_addStatement_123 (show inR 0 from ⟨by decide, by decide⟩) k) ?_
            refine Xi.up (pc' := 127) (fun _ _ k => x_putIK hK66 lf5_39 rfl rfl (Or.inr (Or.inl rfl)) dX5_addStatement_124 h0.1 k) ?_
            have hK68 := KW.sI hK66 5 6 0
            refine Xi.up (pc' := 129) (fun _ _ k => x_iload dX5_addStatement_127 rfl k) ?_
            exact Xi.ret ⟨dX5_addStatement_129, Or.inl rfl⟩ h
    · have h := h.2 c
      refine Xi.up (pc' := 21) (fun _ _ k => x_aload_n dX5_addStatement_20 rfl rfl k) ?_
      refine Xi.up (pc' := 24) (fun _ _ k => x_getRK hK lf5_15 rfl dX5_addStatement_21 h0.1 h0.2.2.1 k) ?_
      refine Xi.up (pc' := 25) (fun _ _ k => x_aload_n dX5_addStatement_24 rfl rfl k) ?_
      refine Xi.up (pc' := 28) (fun _ _ k => x_getIK hK lf5_36 rfl dX5_addStatement_25 h0.1 k) ?_
      refine Xi.up (pc' := 29) (fun _ _ k => x_iconst dX5_addStatement_28 (show inR 1 from ⟨by decide, by decide⟩) k) ?_
      obtain ⟨g69, h⟩ := h
      refine Xi.up (pc' := 30) (fun _ _ k => x_isub dX5_addStatement_29 g69 k) ?_
      obtain ⟨g70, h⟩ := h
      obtain ⟨g71, h⟩ := h
      refine Xi.up (pc' := 31) (fun _ _ k => x_ialoadK hK dX5_addStatement_30 h0.2.2.2.2.2.1 g70 g71 k) ?_
      refine Xi.up (pc' := 35) (fun _ _ k => x_goto dX5_addStatement_31 rfl k) ?_
      refine Xi.up (pc' := 36) (L' := [some (zr 5), some (zi a1), some (zi a2), some (zi (mI M 6 ((mI M 5 5) - 1).toNat)), none, none]) (fun _ _ k => x_istore_n dX5_addStatement_35 rfl (by decide) rfl k) ?_
      refine Xi.up (pc' := 37) (fun _ _ k => x_aload_n dX5_addStatement_36 rfl rfl k) ?_
      refine Xi.up (pc' := 40) (fun _ _ k => x_getRK hK lf5_25 rfl dX5_addStatement_37 h0.1 h0.2.2.2.2.1 k) ?_
      refine Xi.up (pc' := 41) (fun _ _ k => x_iload_n dX5_addStatement_40 rfl rfl k) ?_
      refine Xi.up (pc' := 42) (fun _ _ k => x_iload_n dX5_addStatement_41 rfl rfl k) ?_
      refine Xi.up (pc' := 43) (fun _ _ k => x_iload_n dX5_addStatement_42 rfl rfl k) ?_
      refine Xi.up (pc' := 44) (fun _ _ k => x_aload_n dX5_addStatement_43 rfl rfl k) ?_
      refine Xi.up (pc' := 47) (fun _ _ k => x_getIK hK lf5_36 rfl dX5_addStatement_44 h0.1 k) ?_
      obtain ⟨x73, M72, hc75, hK74, h⟩ := h
      refine Xi.up (pc' := 50) (st' := [zi x73]) (fun _ _ k => x_callVK (ci := 4) (as := [zi a1, zi a2, zi (mI M 6 ((mI M 5 5) - 1).toNat), zi (mI M 5 5)]) (st := []) hK k4_addStatement lm5_95 dX5_addStatement_47 rfl (by decide) (zs8 rfl) h0.2.2.2.2.2.2.2.2.1 ⟨_, _, rfl⟩ hc75 k) ?_
      refine Xi.up (pc' := 52) (L' := [some (zr 5), some (zi a1), some (zi a2), some (zi (mI M 6 ((mI M 5 5) - 1).toNat)), some (zi x73), none]) (fun _ _ k => x_istore dX5_addStatement_50 (by decide) rfl k) ?_
      refine Xi.up (pc' := 53) (fun _ _ k => x_aload_n dX5_addStatement_52 rfl rfl k) ?_
      refine Xi.up (pc' := 56) (fun _ _ k => x_getIK hK74 lf5_36 rfl dX5_addStatement_53 h0.1 k) ?_
      refine Xi.br (tgt := 83) (pc' := 59) ((mI M72 5 5) < 0) (fun _ _ kt kf => x_if_lt dX5_addStatement_56 rfl kt kf) (fun c => ?_) (fun c => ?_)
      · have h := h.1 c
        refine Xi.up (pc' := 84) (fun _ _ k => x_iconst dX5_addStatement_83 (show inR (-1) from ⟨by decide, by decide⟩) k) ?_
        refine Xi.up (pc' := 86) (L' := [some (zr 5), some (zi a1), some (zi a2), some (zi (mI M 6 ((mI M 5 5) - 1).toNat)), some (zi x73), some (zi (-1))]) (fun _ _ k => x_istore dX5_addStatement_84 (by decide) rfl k) ?_
        refine Xi.up (pc' := 88) (fun _ _ k => x_iload dX5_addStatement_86 rfl k) ?_
        refine Xi.up (pc' := 89) (fun _ _ k => x_iconst dX5_addStatement_88 (show inR (-1) from ⟨by decide, by decide⟩) k) ?_
        refine Xi.br (tgt := 105) (pc' := 92) (((-1) : Int) ≠ (-1)) (fun _ _ kt kf => x_icmp_ne dX5_addStatement_89 rfl kt kf) (fun c => absurd c (by decide)) (fun _ => ?_)
        refine Xi.up (pc' := 93) (fun _ _ k => x_aload_n dX5_addStatement_92 rfl rfl k) ?_
        refine Xi.up (pc' := 96) (fun _ _ k => x_getRK hK74 lf5_25 rfl dX5_addStatement_93 h0.1 h0.2.2.2.2.1 k) ?_
        refine Xi.up (pc' := 97) (fun _ _ k => x_iload_n dX5_addStatement_96 rfl rfl k) ?_
        refine Xi.up (pc' := 99) (fun _ _ k => x_iload dX5_addStatement_97 rfl k) ?_
        obtain ⟨M76, hc78, hK77, h⟩ := h
        refine Xi.up (pc' := 102) (st' := []) (fun _ _ k => x_callVK (ci := 4) (as := [zi (mI M 6 ((mI M 5 5) - 1).toNat), zi x73]) (st := []) hK74 k4_linkFirst lm5_98 dX5_addStatement_99 rfl (by decide) (zs8 rfl) h0.2.2.2.2.2.2.2.2.1 ⟨_, _, rfl⟩ hc78 k) ?_
        refine Xi.up (pc' := 116) (fun _ _ k => x_goto dX5_addStatement_102 rfl k) ?_
        refine Xi.up (pc' := 117) (fun _ _ k => x_aload_n dX5_addStatement_116 rfl rfl k) ?_
        refine Xi.up (pc' := 119) (fun _ _ k => x_iload dX5_addStatement_117 rfl k) ?_
        obtain ⟨M79, hc81, hK80, h⟩ := h
        refine Xi.up (pc' := 122) (st' := []) (fun _ _ k => x_callVK (ci := 5) (as := [zi x73]) (st := []) hK77 k5_setBefore lm5_46 dX5_addStatement_119 rfl (by decide) (zs8 rfl) h0.1 ⟨_, _, rfl⟩ hc81 k) ?_
        refine Xi.up (pc' := 123) (fun _ _ k => x_aload_n dX5_addStatement_122 rfl rfl k) ?_
        refine Xi.up (pc' := 124) (fun _ _ k => x_iconst dX5_addStatement_123 (show inR 0 from ⟨by decide, by decide⟩) k) ?_
        refine Xi.up (pc' := 127) (fun _ _ k => x_putIK hK80 lf5_39 rfl rfl (Or.inr (Or.inl rfl)) dX5_addStatement_124 h0.1 k) ?_
        have hK82 := KW.sI hK80 5 6 0
        refine Xi.up (pc' := 129) (fun _ _ k => x_iload dX5_addStatement_127 rfl k) ?_
        exact Xi.ret ⟨dX5_addStatement_129, Or.inl rfl⟩ h
      · have h := h.2 c
        refine Xi.up (pc' := 60) (fun _ _ k => x_aload_n dX5_addStatement_59 rfl rfl k) ?_
        refine Xi.up (pc' := 63) (fun _ _ k => x_getIK hK74 lf5_36 rfl dX5_addStatement_60 h0.1 k) ?_
        refine Xi.up (pc' := 64) (fun _ _ k => x_aload_n dX5_addStatement_63 rfl rfl k) ?_
        refine Xi.up (pc' := 67) (fun _ _ k => x_getRK hK74 lf5_19 rfl dX5_addStatement_64 h0.1 h0.2.2.2.1 k) ?_
        refine Xi.up (pc' := 68) (fun _ _ k => x_alenK hK74 dX5_addStatement_67 h0.2.2.2.2.2.2.1 (by decide) (by decide) k) ?_
        refine Xi.br (tgt := 83) (pc' := 71) (7 ≤ (mI M72 5 5)) (fun _ _ kt kf => x_icmp_ge dX5_addStatement_68 rfl kt kf) (fun c => ?_) (fun c => ?_)
        · have h := h.1 c
          refine Xi.up (pc' := 84) (fun _ _ k => x_iconst dX5_addStatement_83 (show inR (-1) from ⟨by decide, by decide⟩) k) ?_
          refine Xi.up (pc' := 86) (L' := [some (zr 5), some (zi a1), some (zi a2), some (zi (mI M 6 ((mI M 5 5) - 1).toNat)), some (zi x73), some (zi (-1))]) (fun _ _ k => x_istore dX5_addStatement_84 (by decide) rfl k) ?_
          refine Xi.up (pc' := 88) (fun _ _ k => x_iload dX5_addStatement_86 rfl k) ?_
          refine Xi.up (pc' := 89) (fun _ _ k => x_iconst dX5_addStatement_88 (show inR (-1) from ⟨by decide, by decide⟩) k) ?_
          refine Xi.br (tgt := 105) (pc' := 92) (((-1) : Int) ≠ (-1)) (fun _ _ kt kf => x_icmp_ne dX5_addStatement_89 rfl kt kf) (fun c => absurd c (by decide)) (fun _ => ?_)
          refine Xi.up (pc' := 93) (fun _ _ k => x_aload_n dX5_addStatement_92 rfl rfl k) ?_
          refine Xi.up (pc' := 96) (fun _ _ k => x_getRK hK74 lf5_25 rfl dX5_addStatement_93 h0.1 h0.2.2.2.2.1 k) ?_
          refine Xi.up (pc' := 97) (fun _ _ k => x_iload_n dX5_addStatement_96 rfl rfl k) ?_
          refine Xi.up (pc' := 99) (fun _ _ k => x_iload dX5_addStatement_97 rfl k) ?_
          obtain ⟨M83, hc85, hK84, h⟩ := h
          refine Xi.up (pc' := 102) (st' := []) (fun _ _ k => x_callVK (ci := 4) (as := [zi (mI M 6 ((mI M 5 5) - 1).toNat), zi x73]) (st := []) hK74 k4_linkFirst lm5_98 dX5_addStatement_99 rfl (by decide) (zs8 rfl) h0.2.2.2.2.2.2.2.2.1 ⟨_, _, rfl⟩ hc85 k) ?_
          refine Xi.up (pc' := 116) (fun _ _ k => x_goto dX5_addStatement_102 rfl k) ?_
          refine Xi.up (pc' := 117) (fun _ _ k => x_aload_n dX5_addStatement_116 rfl rfl k) ?_
          refine Xi.up (pc' := 119) (fun _ _ k => x_iload dX5_addStatement_117 rfl k) ?_
          obtain ⟨M86, hc88, hK87, h⟩ := h
          refine Xi.up (pc' := 122) (st' := []) (fun _ _ k => x_callVK (ci := 5) (as := [zi x73]) (st := []) hK84 k5_setBefore lm5_46 dX5_addStatement_119 rfl (by decide) (zs8 rfl) h0.1 ⟨_, _, rfl⟩ hc88 k) ?_
          refine Xi.up (pc' := 123) (fun _ _ k => x_aload_n dX5_addStatement_122 rfl rfl k) ?_
          refine Xi.up (pc' := 124) (fun _ _ k => x_iconst dX5_addStatement_123 (show inR 0 from ⟨by decide, by decide⟩) k) ?_
          refine Xi.up (pc' := 127) (fun _ _ k => x_putIK hK87 lf5_39 rfl rfl (Or.inr (Or.inl rfl)) dX5_addStatement_124 h0.1 k) ?_
          have hK89 := KW.sI hK87 5 6 0
          refine Xi.up (pc' := 129) (fun _ _ k => x_iload dX5_addStatement_127 rfl k) ?_
          exact Xi.ret ⟨dX5_addStatement_129, Or.inl rfl⟩ h
        · have h := h.2 c
          refine Xi.up (pc' := 72) (fun _ _ k => x_aload_n dX5_addStatement_71 rfl rfl k) ?_
          refine Xi.up (pc' := 75) (fun _ _ k => x_getRK hK74 lf5_19 rfl dX5_addStatement_72 h0.1 h0.2.2.2.1 k) ?_
          refine Xi.up (pc' := 76) (fun _ _ k => x_aload_n dX5_addStatement_75 rfl rfl k) ?_
          refine Xi.up (pc' := 79) (fun _ _ k => x_getIK hK74 lf5_36 rfl dX5_addStatement_76 h0.1 k) ?_
          obtain ⟨g90, h⟩ := h
          obtain ⟨g91, h⟩ := h
          refine Xi.up (pc' := 80) (fun _ _ k => x_ialoadK hK74 dX5_addStatement_79 h0.2.2.2.2.2.2.1 g90 g91 k) ?_
          refine Xi.up (pc' := 84) (fun _ _ k => x_goto dX5_addStatement_80 rfl k) ?_
          refine Xi.up (pc' := 86) (L' := [some (zr 5), some (zi a1), some (zi a2), some (zi (mI M 6 ((mI M 5 5) - 1).toNat)), some (zi x73), some (zi (mI M72 7 (mI M72 5 5).toNat))]) (fun _ _ k => x_istore dX5_addStatement_84 (by decide) rfl k) ?_
          refine Xi.up (pc' := 88) (fun _ _ k => x_iload dX5_addStatement_86 rfl k) ?_
          refine Xi.up (pc' := 89) (fun _ _ k => x_iconst dX5_addStatement_88 (show inR (-1) from ⟨by decide, by decide⟩) k) ?_
          refine Xi.br (tgt := 105) (pc' := 92) ((mI M72 7 (mI M72 5 5).toNat) ≠ (-1)) (fun _ _ kt kf => x_icmp_ne dX5_addStatement_89 rfl kt kf) (fun c => ?_) (fun c => ?_)
          · have h := h.1 c
            refine Xi.up (pc' := 106) (fun _ _ k => x_aload_n dX5_addStatement_105 rfl rfl k) ?_
            refine Xi.up (pc' := 109) (fun _ _ k => x_getRK hK74 lf5_25 rfl dX5_addStatement_106 h0.1 h0.2.2.2.2.1 k) ?_
            refine Xi.up (pc' := 111) (fun _ _ k => x_iload dX5_addStatement_109 rfl k) ?_
            refine Xi.up (pc' := 113) (fun _ _ k => x_iload dX5_addStatement_111 rfl k) ?_
            obtain ⟨M92, hc94, hK93, h⟩ := h
            refine Xi.up (pc' := 116) (st' := []) (fun _ _ k => x_callVK (ci := 4) (as := [zi (mI M72 7 (mI M72 5 5).toNat), zi x73]) (st := []) hK74 k4_linkBehind lm5_102 dX5_addStatement_113 rfl (by decide) (zs8 rfl) h0.2.2.2.2.2.2.2.2.1 ⟨_, _, rfl⟩ hc94 k) ?_
            refine Xi.up (pc' := 117) (fun _ _ k => x_aload_n dX5_addStatement_116 rfl rfl k) ?_
            refine Xi.up (pc' := 119) (fun _ _ k => x_iload dX5_addStatement_117 rfl k) ?_
            obtain ⟨M95, hc97, hK96, h⟩ := h
            refine Xi.up (pc' := 122) (st' := []) (fun _ _ k => x_callVK (ci := 5) (as := [zi x73]) (st := []) hK93 k5_setBefore lm5_46 dX5_addStatement_119 rfl (by decide) (zs8 rfl) h0.1 ⟨_, _, rfl⟩ hc97 k) ?_
            refine Xi.up (pc' := 123) (fun _ _ k => x_aload_n dX5_addStatement_122 rfl rfl k) ?_
            refine Xi.up (pc' := 124) (fun _ _ k => x_iconst dX5_addStatement_123 (show inR 0 from ⟨by decide, by decide⟩) k) ?_
            refine Xi.up (pc' := 127) (fun _ _ k => x_putIK hK96 lf5_39 rfl rfl (Or.inr (Or.inl rfl)) dX5_addStatement_124 h0.1 k) ?_
            have hK98 := KW.sI hK96 5 6 0
            refine Xi.up (pc' := 129) (fun _ _ k => x_iload dX5_addStatement_127 rfl k) ?_
            exact Xi.ret ⟨dX5_addStatement_129, Or.inl rfl⟩ h
          · have h := h.2 c
            refine Xi.up (pc' := 93) (fun _ _ k => x_aload_n dX5_addStatement_92 rfl rfl k) ?_
            refine Xi.up (pc' := 96) (fun _ _ k => x_getRK hK74 lf5_25 rfl dX5_addStatement_93 h0.1 h0.2.2.2.2.1 k) ?_
            refine Xi.up (pc' := 97) (fun _ _ k => x_iload_n dX5_addStatement_96 rfl rfl k) ?_
            refine Xi.up (pc' := 99) (fun _ _ k => x_iload dX5_addStatement_97 rfl k) ?_
            obtain ⟨M99, hc101, hK100, h⟩ := h
            refine Xi.up (pc' := 102) (st' := []) (fun _ _ k => x_callVK (ci := 4) (as := [zi (mI M 6 ((mI M 5 5) - 1).toNat), zi x73]) (st := []) hK74 k4_linkFirst lm5_98 dX5_addStatement_99 rfl (by decide) (zs8 rfl) h0.2.2.2.2.2.2.2.2.1 ⟨_, _, rfl⟩ hc101 k) ?_
            refine Xi.up (pc' := 116) (fun _ _ k => x_goto dX5_addStatement_102 rfl k) ?_
            refine Xi.up (pc' := 117) (fun _ _ k => x_aload_n dX5_addStatement_116 rfl rfl k) ?_
            refine Xi.up (pc' := 119) (fun _ _ k => x_iload dX5_addStatement_117 rfl k) ?_
            obtain ⟨M102, hc104, hK103, h⟩ := h
            refine Xi.up (pc' := 122) (st' := []) (fun _ _ k => x_callVK (ci := 5) (as := [zi x73]) (st := []) hK100 k5_setBefore lm5_46 dX5_addStatement_119 rfl (by decide) (zs8 rfl) h0.1 ⟨_, _, rfl⟩ hc104 k) ?_
            refine Xi.up (pc' := 123) (fun _ _ k => x_aload_n dX5_addStatement_122 rfl rfl k) ?_
            refine Xi.up (pc' := 124) (fun _ _ k => x_iconst dX5_addStatement_123 (show inR 0 from ⟨by decide, by decide⟩) k) ?_
            refine Xi.up (pc' := 127) (fun _ _ k => x_putIK hK103 lf5_39 rfl rfl (Or.inr (Or.inl rfl)) dX5_addStatement_124 h0.1 k) ?_
            have hK105 := KW.sI hK103 5 6 0
            refine Xi.up (pc' := 129) (fun _ _ k => x_iload dX5_addStatement_127 rfl k) ?_
            exact Xi.ret ⟨dX5_addStatement_129, Or.inl rfl⟩ h
set_option maxHeartbeats 4000000 in
set_option maxRecDepth 20000 in
theorem B5_setBefore {d : Nat} {K M : ZMem} {Q : ZMem → Prop} (a1 : Int) (hK : KW K M) (h0 : ReaderAt K 5) (h : (((mI M 5 5) < 0 → (Q M)) ∧ (¬ ((mI M 5 5) < 0) → ((7 ≤ (mI M 5 5) → (Q M)) ∧ (¬ (7 ≤ (mI M 5 5)) → ((0 ≤ (mI M 5 5)) ∧ ((mI M 5 5) < 7) ∧ Q (sI M 7 ((mI M 5 5).toNat) a1))))))) : Cv d q5_setBefore [zr 5, zi a1] M Q := by
  refine Cv.of rfl rfl (Nat.le_of_ble_eq_true rfl) (fun w hw x e => by subst e; simp at hw) (L := [some (zr 5), some (zi a1)]) rfl ?_
  refine Xv.up (pc' := 1) (fun _ _ k => x_aload_n dX5_setBefore_0 rfl rfl k) ?_
  refine Xv.up (pc' := 4) (fun _ _ k => x_getIK hK lf5_36 rfl dX5_setBefore_1 h0.1 k) ?_
  refine Xv.br (tgt := 29) (pc' := 7) ((mI M 5 5) < 0) (fun _ _ kt kf => x_if_lt dX5_setBefore_4 rfl kt kf) (fun c => ?_) (fun c => ?_)
  · have h := h.1 c
    exact Xv.ret ⟨dX5_setBefore_29, rfl⟩ h
  · have h := h.2 c
    refine Xv.up (pc' := 8) (fun _ _ k => x_aload_n dX5_setBefore_7 rfl rfl k) ?_
    refine Xv.up (pc' := 11) (fun _ _ k => x_getIK hK lf5_36 rfl dX5_setBefore_8 h0.1 k) ?_
    refine Xv.up (pc' := 12) (fun _ _ k => x_aload_n dX5_setBefore_11 rfl rfl k) ?_
    refine Xv.up (pc' := 15) (fun _ _ k => x_getRK hK lf5_19 rfl dX5_setBefore_12 h0.1 h0.2.2.2.1 k) ?_
    refine Xv.up (pc' := 16) (fun _ _ k => x_alenK hK dX5_setBefore_15 h0.2.2.2.2.2.2.1 (by decide) (by decide) k) ?_
    refine Xv.br (tgt := 29) (pc' := 19) (7 ≤ (mI M 5 5)) (fun _ _ kt kf => x_icmp_ge dX5_setBefore_16 rfl kt kf) (fun c => ?_) (fun c => ?_)
    · have h := h.1 c
      exact Xv.ret ⟨dX5_setBefore_29, rfl⟩ h
    · have h := h.2 c
      refine Xv.up (pc' := 20) (fun _ _ k => x_aload_n dX5_setBefore_19 rfl rfl k) ?_
      refine Xv.up (pc' := 23) (fun _ _ k => x_getRK hK lf5_19 rfl dX5_setBefore_20 h0.1 h0.2.2.2.1 k) ?_
      refine Xv.up (pc' := 24) (fun _ _ k => x_aload_n dX5_setBefore_23 rfl rfl k) ?_
      refine Xv.up (pc' := 27) (fun _ _ k => x_getIK hK lf5_36 rfl dX5_setBefore_24 h0.1 k) ?_
      refine Xv.up (pc' := 28) (fun _ _ k => x_iload_n dX5_setBefore_27 rfl rfl k) ?_
      obtain ⟨g1, h⟩ := h
      obtain ⟨g2, h⟩ := h
      refine Xv.up (pc' := 29) (fun _ _ k => x_iastoreK hK dX5_setBefore_28 h0.2.2.2.2.2.2.1 g1 g2 k) ?_
      have hK3 := KW.sI hK 7 ((mI M 5 5).toNat) a1
      exact Xv.ret ⟨dX5_setBefore_29, rfl⟩ h
set_option maxHeartbeats 4000000 in
set_option maxRecDepth 20000 in
theorem B5_openBracket {d : Nat} {K M : ZMem} {Q : Int → ZMem → Prop} (a1 : Int) (hK : KW K M) (h0 : ReaderAt K 5) (h : (((mI M 5 5) < 0 → (Q 0 M)) ∧ (¬ ((mI M 5 5) < 0) → (((mI M 5 5) < 6 → (Ci d q4_addPart [zr 8, zi a1] M (fun x2 M1 => KW K M1 ∧ (0 ≤ (mI M1 5 5)) ∧ ((mI M1 5 5) < 6) ∧ (inR ((mI (sI M1 6 ((mI M1 5 5).toNat) a1) 5 5) + 1)) ∧ Cv d q5_setBefore [zr 5, zi (-1)] (sI (sI M1 6 ((mI M1 5 5).toNat) a1) 5 5 ((mI (sI M1 6 ((mI M1 5 5).toNat) a1) 5 5) + 1)) (fun M10 => KW K M10 ∧ (inR ((mI M10 5 4) + 1)) ∧ Q 1 (sI (sI M10 5 4 ((mI M10 5 4) + 1)) 5 6 1))))) ∧ (¬ ((mI M 5 5) < 6) → (Q 0 M)))))) : Ci (d + 1) q5_openBracket [zr 5, zi a1] M Q := by
  refine Ci.of rfl rfl (Nat.le_of_ble_eq_true rfl) (fun w hw x e => by subst e; simp at hw) (L := [some (zr 5), some (zi a1)]) rfl ?_
  refine Xi.up (pc' := 1) (fun _ _ k => x_aload_n dX5_openBracket_0 rfl rfl k) ?_
  refine Xi.up (pc' := 4) (fun _ _ k => x_getIK hK lf5_36 rfl dX5_openBracket_1 h0.1 k) ?_
  refine Xi.br (tgt := 19) (pc' := 7) ((mI M 5 5) < 0) (fun _ _ kt kf => x_if_lt dX5_openBracket_4 rfl kt kf) (fun c => ?_) (fun c => ?_)
  · have h := h.1 c
    refine Xi.up (pc' := 20) (fun _ _ k => x_iconst dX5_openBracket_19 (show inR 0 from ⟨by decide, by decide⟩) k) ?_
    exact Xi.ret ⟨dX5_openBracket_20, Or.inr ⟨rfl, Or.inl rfl⟩⟩ h
  · have h := h.2 c
    refine Xi.up (pc' := 8) (fun _ _ k => x_aload_n dX5_openBracket_7 rfl rfl k) ?_
    refine Xi.up (pc' := 11) (fun _ _ k => x_getIK hK lf5_36 rfl dX5_openBracket_8 h0.1 k) ?_
    refine Xi.up (pc' := 12) (fun _ _ k => x_aload_n dX5_openBracket_11 rfl rfl k) ?_
    refine Xi.up (pc' := 15) (fun _ _ k => x_getRK hK lf5_15 rfl dX5_openBracket_12 h0.1 h0.2.2.1 k) ?_
    refine Xi.up (pc' := 16) (fun _ _ k => x_alenK hK dX5_openBracket_15 h0.2.2.2.2.2.1 (by decide) (by decide) k) ?_
    refine Xi.br (tgt := 21) (pc' := 19) ((mI M 5 5) < 6) (fun _ _ kt kf => x_icmp_lt dX5_openBracket_16 rfl kt kf) (fun c => ?_) (fun c => ?_)
    · have h := h.1 c
      refine Xi.up (pc' := 22) (fun _ _ k => x_aload_n dX5_openBracket_21 rfl rfl k) ?_
      refine Xi.up (pc' := 25) (fun _ _ k => x_getRK hK lf5_25 rfl dX5_openBracket_22 h0.1 h0.2.2.2.2.1 k) ?_
      refine Xi.up (pc' := 26) (fun _ _ k => x_iload_n dX5_openBracket_25 rfl rfl k) ?_
      obtain ⟨x2, M1, hc4, hK3, h⟩ := h
      refine Xi.up (pc' := 29) (st' := [zi x2]) (fun _ _ k => x_callVK (ci := 4) (as := [zi a1]) (st := []) hK k4_addPart lm5_105 dX5_openBracket_26 rfl (by decide) (zs8 rfl) h0.2.2.2.2.2.2.2.2.1 ⟨_, _, rfl⟩ hc4 k) ?_
      refine Xi.up (pc' := 30) (fun _ _ k => x_popI dX5_openBracket_29 k) ?_
      refine Xi.up (pc' := 31) (fun _ _ k => x_aload_n dX5_openBracket_30 rfl rfl k) ?_
      refine Xi.up (pc' := 34) (fun _ _ k => x_getRK hK3 lf5_15 rfl dX5_openBracket_31 h0.1 h0.2.2.1 k) ?_
      refine Xi.up (pc' := 35) (fun _ _ k => x_aload_n dX5_openBracket_34 rfl rfl k) ?_
      refine Xi.up (pc' := 38) (fun _ _ k => x_getIK hK3 lf5_36 rfl dX5_openBracket_35 h0.1 k) ?_
      refine Xi.up (pc' := 39) (fun _ _ k => x_iload_n dX5_openBracket_38 rfl rfl k) ?_
      obtain ⟨g5, h⟩ := h
      obtain ⟨g6, h⟩ := h
      refine Xi.up (pc' := 40) (fun _ _ k => x_iastoreK hK3 dX5_openBracket_39 h0.2.2.2.2.2.1 g5 g6 k) ?_
      have hK7 := KW.sI hK3 6 ((mI M1 5 5).toNat) a1
      refine Xi.up (pc' := 41) (fun _ _ k => x_aload_n dX5_openBracket_40 rfl rfl k) ?_
      refine Xi.up (pc' := 42) (fun _ _ k => x_dupR dX5_openBracket_41 k) ?_
      refine Xi.up (pc' := 45) (fun _ _ k => x_getIK hK7 lf5_36 rfl dX5_openBracket_42 h0.1 k) ?_
      refine Xi.up (pc' := 46) (fun _ _ k => x_iconst dX5_openBracket_45 (show inR 1 from ⟨by decide, by decide⟩) k) ?_
      obtain ⟨g8, h⟩ := h
      refine Xi.up (pc' := 47) (fun _ _ k => x_iadd dX5_openBracket_46 g8 k) ?_
      refine Xi.up (pc' := 50) (fun _ _ k => x_putIK hK7 lf5_36 rfl rfl (Or.inl rfl) dX5_openBracket_47 h0.1 k) ?_
      have hK9 := KW.sI hK7 5 5 ((mI (sI M1 6 ((mI M1 5 5).toNat) a1) 5 5) + 1)
      refine Xi.up (pc' := 51) (fun _ _ k => x_aload_n dX5_openBracket_50 rfl rfl k) ?_
      refine Xi.up (pc' := 52) (fun _ _ k => x_iconst dX5_openBracket_51 (show inR (-1) from ⟨by decide, by decide⟩) k) ?_
      obtain ⟨M10, hc12, hK11, h⟩ := h
      refine Xi.up (pc' := 55) (st' := []) (fun _ _ k => x_callVK (ci := 5) (as := [zi (-1)]) (st := []) hK9 k5_setBefore lm5_46 dX5_openBracket_52 rfl (by decide) (zs8 rfl) h0.1 ⟨_, _, rfl⟩ hc12 k) ?_
      refine Xi.up (pc' := 56) (fun _ _ k => x_aload_n dX5_openBracket_55 rfl rfl k) ?_
      refine Xi.up (pc' := 57) (fun _ _ k => x_dupR dX5_openBracket_56 k) ?_
      refine Xi.up (pc' := 60) (fun _ _ k => x_getIK hK11 lf5_32 rfl dX5_openBracket_57 h0.1 k) ?_
      refine Xi.up (pc' := 61) (fun _ _ k => x_iconst dX5_openBracket_60 (show inR 1 from ⟨by decide, by decide⟩) k) ?_
      obtain ⟨g13, h⟩ := h
      refine Xi.up (pc' := 62) (fun _ _ k => x_iadd dX5_openBracket_61 g13 k) ?_
      refine Xi.up (pc' := 65) (fun _ _ k => x_putIK hK11 lf5_32 rfl rfl (Or.inl rfl) dX5_openBracket_62 h0.1 k) ?_
      have hK14 := KW.sI hK11 5 4 ((mI M10 5 4) + 1)
      refine Xi.up (pc' := 66) (fun _ _ k => x_aload_n dX5_openBracket_65 rfl rfl k) ?_
      refine Xi.up (pc' := 67) (fun _ _ k => x_iconst dX5_openBracket_66 (show inR 1 from ⟨by decide, by decide⟩) k) ?_
      refine Xi.up (pc' := 70) (fun _ _ k => x_putIK hK14 lf5_39 rfl rfl (Or.inr (Or.inr rfl)) dX5_openBracket_67 h0.1 k) ?_
      have hK15 := KW.sI hK14 5 6 1
      refine Xi.up (pc' := 71) (fun _ _ k => x_iconst dX5_openBracket_70 (show inR 1 from ⟨by decide, by decide⟩) k) ?_
      exact Xi.ret ⟨dX5_openBracket_71, Or.inr ⟨rfl, Or.inr rfl⟩⟩ h
    · have h := h.2 c
      refine Xi.up (pc' := 20) (fun _ _ k => x_iconst dX5_openBracket_19 (show inR 0 from ⟨by decide, by decide⟩) k) ?_
      exact Xi.ret ⟨dX5_openBracket_20, Or.inr ⟨rfl, Or.inl rfl⟩⟩ h
set_option maxHeartbeats 4000000 in
set_option maxRecDepth 20000 in
theorem B5_readChoose {d : Nat} {K M : ZMem} {Q : Int → ZMem → Prop} (a1 : Int) (hK : KW K M) (h0 : ReaderAt K 5) (h : Ci d q7_at [zr 3, zi (mI M 5 4)] M (fun x2 M1 => KW K M1 ∧ ((x2 = 123 → (Ci d q5_addStatement [zr 5, zi 4, zi a1] M1 (fun x6 M5 => KW K M5 ∧ (inR ((mI M5 5 4) + 1)) ∧ Xi (d + 1) q5_readChoose 85 [some (zr 5), none, some (zi 0)] [] (sI M5 5 4 ((mI M5 5 4) + 1)) Q))) ∧ (¬ (x2 = 123) → (Ci d q5_addStatement [zr 5, zi 3, zi a1] M1 (fun x12 M11 => KW K M11 ∧ Ci d q5_readFormula [zr 5, zr 17] M11 (fun x16 M15 => KW K M15 ∧ ((x16 = 0 → (Q 0 M15)) ∧ (¬ (x16 = 0) → (Ci d q5_readSign [zr 5, zi 44] M15 (fun x20 M19 => KW K M19 ∧ ((x20 = 0 → (Q 0 M19)) ∧ (¬ (x20 = 0) → (Ci d q5_readFormula [zr 5, zr 17] M19 (fun x24 M23 => KW K M23 ∧ ((x24 = 0 → (Q 0 M23)) ∧ (¬ (x24 = 0) → (Q 1 M23)))))))))))))))))) : Ci (d + 1) q5_readChoose [zr 5, zi a1] M Q := by
  refine Ci.of rfl rfl (Nat.le_of_ble_eq_true rfl) (fun w hw x e => by subst e; simp at hw) (L := [some (zr 5), some (zi a1), none]) rfl ?_
  refine Xi.up (pc' := 1) (fun _ _ k => x_aload_n dX5_readChoose_0 rfl rfl k) ?_
  refine Xi.up (pc' := 4) (fun _ _ k => x_getRK hK lf5_9 rfl dX5_readChoose_1 h0.1 h0.2.1 k) ?_
  refine Xi.up (pc' := 5) (fun _ _ k => x_aload_n dX5_readChoose_4 rfl rfl k) ?_
  refine Xi.up (pc' := 8) (fun _ _ k => x_getIK hK lf5_32 rfl dX5_readChoose_5 h0.1 k) ?_
  obtain ⟨x2, M1, hc4, hK3, h⟩ := h
  refine Xi.up (pc' := 11) (st' := [zi x2]) (fun _ _ k => x_callVK (ci := 7) (as := [zi (mI M 5 4)]) (st := []) hK k7_at lm5_71 dX5_readChoose_8 rfl (by decide) (zs8 rfl) h0.2.2.2.2.2.2.2.1.1 ⟨_, _, rfl⟩ hc4 k) ?_
  refine Xi.up (pc' := 13) (fun _ _ k => x_bipush dX5_readChoose_11 (show inR 123 from ⟨by decide, by decide⟩) (by decide) k) ?_
  refine Xi.br (tgt := 66) (pc' := 16) (x2 = 123) (fun _ _ kt kf => x_icmp_eq dX5_readChoose_13 rfl kt kf) (fun c => ?_) (fun c => ?_)
  · have h := h.1 c
    refine Xi.up (pc' := 67) (fun _ _ k => x_aload_n dX5_readChoose_66 rfl rfl k) ?_
    refine Xi.up (pc' := 68) (fun _ _ k => x_iconst dX5_readChoose_67 (show inR 4 from ⟨by decide, by decide⟩) k) ?_
    refine Xi.up (pc' := 69) (fun _ _ k => x_iload_n dX5_readChoose_68 rfl rfl k) ?_
    obtain ⟨x6, M5, hc8, hK7, h⟩ := h
    refine Xi.up (pc' := 72) (st' := [zi x6]) (fun _ _ k => x_callVK (ci := 5) (as := [zi 4, zi a1]) (st := []) hK3 k5_addStatement lm5_75 dX5_readChoose_69 rfl (by decide) (zs8 rfl) h0.1 ⟨_, _, rfl⟩ hc8 k) ?_
    refine Xi.up (pc' := 73) (fun _ _ k => x_popI dX5_readChoose_72 k) ?_
    refine Xi.up (pc' := 74) (fun _ _ k => x_aload_n dX5_readChoose_73 rfl rfl k) ?_
    refine Xi.up (pc' := 75) (fun _ _ k => x_dupR dX5_readChoose_74 k) ?_
    refine Xi.up (pc' := 78) (fun _ _ k => x_getIK hK7 lf5_32 rfl dX5_readChoose_75 h0.1 k) ?_
    refine Xi.up (pc' := 79) (fun _ _ k => x_iconst dX5_readChoose_78 (show inR 1 from ⟨by decide, by decide⟩) k) ?_
    obtain ⟨g9, h⟩ := h
    refine Xi.up (pc' := 80) (fun _ _ k => x_iadd dX5_readChoose_79 g9 k) ?_
    refine Xi.up (pc' := 83) (fun _ _ k => x_putIK hK7 lf5_32 rfl rfl (Or.inl rfl) dX5_readChoose_80 h0.1 k) ?_
    have hK10 := KW.sI hK7 5 4 ((mI M5 5 4) + 1)
    refine Xi.up (pc' := 84) (fun _ _ k => x_iconst dX5_readChoose_83 (show inR 0 from ⟨by decide, by decide⟩) k) ?_
    refine Xi.up (pc' := 85) (L' := [some (zr 5), some (zi a1), some (zi 0)]) (fun _ _ k => x_istore_n dX5_readChoose_84 rfl (by decide) rfl k) ?_
    exact Xi.up (fun _ _ k => x_less (L' := [some (zr 5), none, some (zi 0)]) (⟨rfl, ⟨rfl, trivial⟩⟩) k) h
  · have h := h.2 c
    refine Xi.up (pc' := 17) (fun _ _ k => x_aload_n dX5_readChoose_16 rfl rfl k) ?_
    refine Xi.up (pc' := 18) (fun _ _ k => x_iconst dX5_readChoose_17 (show inR 3 from ⟨by decide, by decide⟩) k) ?_
    refine Xi.up (pc' := 19) (fun _ _ k => x_iload_n dX5_readChoose_18 rfl rfl k) ?_
    obtain ⟨x12, M11, hc14, hK13, h⟩ := h
    refine Xi.up (pc' := 22) (st' := [zi x12]) (fun _ _ k => x_callVK (ci := 5) (as := [zi 3, zi a1]) (st := []) hK3 k5_addStatement lm5_75 dX5_readChoose_19 rfl (by decide) (zs8 rfl) h0.1 ⟨_, _, rfl⟩ hc14 k) ?_
    refine Xi.up (pc' := 23) (fun _ _ k => x_popI dX5_readChoose_22 k) ?_
    refine Xi.up (pc' := 24) (fun _ _ k => x_aload_n dX5_readChoose_23 rfl rfl k) ?_
    refine Xi.up (pc' := 25) (fun _ _ k => x_aload_n dX5_readChoose_24 rfl rfl k) ?_
    refine Xi.up (pc' := 28) (fun _ _ k => x_getRK hK13 lf5_25 rfl dX5_readChoose_25 h0.1 h0.2.2.2.2.1 k) ?_
    refine Xi.up (pc' := 31) (fun _ _ k => x_getRK hK13 lf5_86 rfl dX5_readChoose_28 h0.2.2.2.2.2.2.2.2.1 h0.2.2.2.2.2.2.2.2.2.2.2.2.2.2.2.2.2.1 k) ?_
    obtain ⟨x16, M15, hc18, hK17, h⟩ := h
    refine Xi.up (pc' := 34) (st' := [zi x16]) (fun _ _ k => x_callVK (ci := 5) (as := [zr 17]) (st := []) hK13 k5_readFormula lm5_61 dX5_readChoose_31 rfl (by decide) (zs8 rfl) h0.1 ⟨_, _, rfl⟩ hc18 k) ?_
    refine Xi.br (tgt := 64) (pc' := 37) (x16 = 0) (fun _ _ kt kf => x_if_eq dX5_readChoose_34 rfl kt kf) (fun c => ?_) (fun c => ?_)
    · have h := h.1 c
      refine Xi.up (pc' := 65) (fun _ _ k => x_iconst dX5_readChoose_64 (show inR 0 from ⟨by decide, by decide⟩) k) ?_
      exact Xi.ret ⟨dX5_readChoose_65, Or.inr ⟨rfl, Or.inl rfl⟩⟩ h
    · have h := h.2 c
      refine Xi.up (pc' := 38) (fun _ _ k => x_aload_n dX5_readChoose_37 rfl rfl k) ?_
      refine Xi.up (pc' := 40) (fun _ _ k => x_bipush dX5_readChoose_38 (show inR 44 from ⟨by decide, by decide⟩) (by decide) k) ?_
      obtain ⟨x20, M19, hc22, hK21, h⟩ := h
      refine Xi.up (pc' := 43) (st' := [zi x20]) (fun _ _ k => x_callVK (ci := 5) (as := [zi 44]) (st := []) hK17 k5_readSign lm5_108 dX5_readChoose_40 rfl (by decide) (zs8 rfl) h0.1 ⟨_, _, rfl⟩ hc22 k) ?_
      refine Xi.br (tgt := 64) (pc' := 46) (x20 = 0) (fun _ _ kt kf => x_if_eq dX5_readChoose_43 rfl kt kf) (fun c => ?_) (fun c => ?_)
      · have h := h.1 c
        refine Xi.up (pc' := 65) (fun _ _ k => x_iconst dX5_readChoose_64 (show inR 0 from ⟨by decide, by decide⟩) k) ?_
        exact Xi.ret ⟨dX5_readChoose_65, Or.inr ⟨rfl, Or.inl rfl⟩⟩ h
      · have h := h.2 c
        refine Xi.up (pc' := 47) (fun _ _ k => x_aload_n dX5_readChoose_46 rfl rfl k) ?_
        refine Xi.up (pc' := 48) (fun _ _ k => x_aload_n dX5_readChoose_47 rfl rfl k) ?_
        refine Xi.up (pc' := 51) (fun _ _ k => x_getRK hK21 lf5_25 rfl dX5_readChoose_48 h0.1 h0.2.2.2.2.1 k) ?_
        refine Xi.up (pc' := 54) (fun _ _ k => x_getRK hK21 lf5_86 rfl dX5_readChoose_51 h0.2.2.2.2.2.2.2.2.1 h0.2.2.2.2.2.2.2.2.2.2.2.2.2.2.2.2.2.1 k) ?_
        obtain ⟨x24, M23, hc26, hK25, h⟩ := h
        refine Xi.up (pc' := 57) (st' := [zi x24]) (fun _ _ k => x_callVK (ci := 5) (as := [zr 17]) (st := []) hK21 k5_readFormula lm5_61 dX5_readChoose_54 rfl (by decide) (zs8 rfl) h0.1 ⟨_, _, rfl⟩ hc26 k) ?_
        refine Xi.br (tgt := 64) (pc' := 60) (x24 = 0) (fun _ _ kt kf => x_if_eq dX5_readChoose_57 rfl kt kf) (fun c => ?_) (fun c => ?_)
        · have h := h.1 c
          refine Xi.up (pc' := 65) (fun _ _ k => x_iconst dX5_readChoose_64 (show inR 0 from ⟨by decide, by decide⟩) k) ?_
          exact Xi.ret ⟨dX5_readChoose_65, Or.inr ⟨rfl, Or.inl rfl⟩⟩ h
        · have h := h.2 c
          refine Xi.up (pc' := 61) (fun _ _ k => x_iconst dX5_readChoose_60 (show inR 1 from ⟨by decide, by decide⟩) k) ?_
          refine Xi.up (pc' := 65) (fun _ _ k => x_goto dX5_readChoose_61 rfl k) ?_
          exact Xi.ret ⟨dX5_readChoose_65, Or.inr ⟨rfl, Or.inr rfl⟩⟩ h
set_option maxHeartbeats 4000000 in
set_option maxRecDepth 20000 in
theorem B5_readChoose_85 {d : Nat} {K M : ZMem} {Q : Int → ZMem → Prop} (l2 : Int) (hK : KW K M) (h0 : ReaderAt K 5) (h : ((6 ≤ l2 → (Q 0 M)) ∧ (¬ (6 ≤ l2) → (Ci d q5_readFormula [zr 5, zr 17] M (fun x2 M1 => KW K M1 ∧ ((x2 ≠ 0 → (Ci d q7_at [zr 3, zi (mI M1 5 4)] M1 (fun x6 M5 => KW K M5 ∧ ((x6 = 44 → ((inR (l2 + 1)) ∧ ((6 ≤ (l2 + 1) → ((inR (l2 + 1)) ∧ Xi (d + 1) q5_readChoose 85 [some (zr 5), none, some (zi (l2 + 1))] [] M5 Q)) ∧ (¬ (6 ≤ (l2 + 1)) → ((inR ((mI M5 5 4) + 1)) ∧ (inR (l2 + 1)) ∧ Xi (d + 1) q5_readChoose 85 [some (zr 5), none, some (zi (l2 + 1))] [] (sI M5 5 4 ((mI M5 5 4) + 1)) Q))))) ∧ (¬ (x6 = 44) → (Ci d q5_readSign [zr 5, zi 125] M5 (fun x15 M14 => KW K M14 ∧ (x15 = 0 ∨ x15 = 1) ∧ Q x15 M14))))))) ∧ (¬ (x2 ≠ 0) → (Q 0 M1)))))))) : Xi (d + 1) q5_readChoose 85 [some (zr 5), none, some (zi l2)] [] M Q := by
  refine Xi.up (pc' := 86) (fun _ _ k => x_iload_n dX5_readChoose_85 rfl rfl k) ?_
  refine Xi.up (pc' := 88) (fun _ _ k => x_bipush dX5_readChoose_86 (show inR 6 from ⟨by decide, by decide⟩) (by decide) k) ?_
  refine Xi.br (tgt := 154) (pc' := 91) (6 ≤ l2) (fun _ _ kt kf => x_icmp_ge dX5_readChoose_88 rfl kt kf) (fun c => ?_) (fun c => ?_)
  · have h := h.1 c
    refine Xi.up (pc' := 155) (fun _ _ k => x_iconst dX5_readChoose_154 (show inR 0 from ⟨by decide, by decide⟩) k) ?_
    exact Xi.ret ⟨dX5_readChoose_155, Or.inr ⟨rfl, Or.inl rfl⟩⟩ h
  · have h := h.2 c
    refine Xi.up (pc' := 92) (fun _ _ k => x_aload_n dX5_readChoose_91 rfl rfl k) ?_
    refine Xi.up (pc' := 93) (fun _ _ k => x_aload_n dX5_readChoose_92 rfl rfl k) ?_
    refine Xi.up (pc' := 96) (fun _ _ k => x_getRK hK lf5_25 rfl dX5_readChoose_93 h0.1 h0.2.2.2.2.1 k) ?_
    refine Xi.up (pc' := 99) (fun _ _ k => x_getRK hK lf5_86 rfl dX5_readChoose_96 h0.2.2.2.2.2.2.2.2.1 h0.2.2.2.2.2.2.2.2.2.2.2.2.2.2.2.2.2.1 k) ?_
    obtain ⟨x2, M1, hc4, hK3, h⟩ := h
    refine Xi.up (pc' := 102) (st' := [zi x2]) (fun _ _ k => x_callVK (ci := 5) (as := [zr 17]) (st := []) hK k5_readFormula lm5_61 dX5_readChoose_99 rfl (by decide) (zs8 rfl) h0.1 ⟨_, _, rfl⟩ hc4 k) ?_
    refine Xi.br (tgt := 107) (pc' := 105) (x2 ≠ 0) (fun _ _ kt kf => x_if_ne dX5_readChoose_102 rfl kt kf) (fun c => ?_) (fun c => ?_)
    · have h := h.1 c
      refine Xi.up (pc' := 108) (fun _ _ k => x_aload_n dX5_readChoose_107 rfl rfl k) ?_
      refine Xi.up (pc' := 111) (fun _ _ k => x_getRK hK3 lf5_9 rfl dX5_readChoose_108 h0.1 h0.2.1 k) ?_
      refine Xi.up (pc' := 112) (fun _ _ k => x_aload_n dX5_readChoose_111 rfl rfl k) ?_
      refine Xi.up (pc' := 115) (fun _ _ k => x_getIK hK3 lf5_32 rfl dX5_readChoose_112 h0.1 k) ?_
      obtain ⟨x6, M5, hc8, hK7, h⟩ := h
      refine Xi.up (pc' := 118) (st' := [zi x6]) (fun _ _ k => x_callVK (ci := 7) (as := [zi (mI M1 5 4)]) (st := []) hK3 k7_at lm5_71 dX5_readChoose_115 rfl (by decide) (zs8 rfl) h0.2.2.2.2.2.2.2.1.1 ⟨_, _, rfl⟩ hc8 k) ?_
      refine Xi.up (pc' := 120) (fun _ _ k => x_bipush dX5_readChoose_118 (show inR 44 from ⟨by decide, by decide⟩) (by decide) k) ?_
      refine Xi.br (tgt := 130) (pc' := 123) (x6 = 44) (fun _ _ kt kf => x_icmp_eq dX5_readChoose_120 rfl kt kf) (fun c => ?_) (fun c => ?_)
      · have h := h.1 c
        refine Xi.up (pc' := 131) (fun _ _ k => x_iload_n dX5_readChoose_130 rfl rfl k) ?_
        refine Xi.up (pc' := 132) (fun _ _ k => x_iconst dX5_readChoose_131 (show inR 1 from ⟨by decide, by decide⟩) k) ?_
        obtain ⟨g9, h⟩ := h
        refine Xi.up (pc' := 133) (fun _ _ k => x_iadd dX5_readChoose_132 g9 k) ?_
        refine Xi.up (pc' := 135) (fun _ _ k => x_bipush dX5_readChoose_133 (show inR 6 from ⟨by decide, by decide⟩) (by decide) k) ?_
        refine Xi.br (tgt := 148) (pc' := 138) (6 ≤ (l2 + 1)) (fun _ _ kt kf => x_icmp_ge dX5_readChoose_135 rfl kt kf) (fun c => ?_) (fun c => ?_)
        · have h := h.1 c
          obtain ⟨g10, h⟩ := h
          refine Xi.up (pc' := 151) (L' := [some (zr 5), none, some (zi (l2 + 1))]) (fun _ _ k => x_iinc dX5_readChoose_148 rfl g10 (by decide) rfl k) ?_
          refine Xi.up (pc' := 85) (fun _ _ k => x_goto dX5_readChoose_151 rfl k) ?_
          exact h
        · have h := h.2 c
          refine Xi.up (pc' := 139) (fun _ _ k => x_aload_n dX5_readChoose_138 rfl rfl k) ?_
          refine Xi.up (pc' := 140) (fun _ _ k => x_dupR dX5_readChoose_139 k) ?_
          refine Xi.up (pc' := 143) (fun _ _ k => x_getIK hK7 lf5_32 rfl dX5_readChoose_140 h0.1 k) ?_
          refine Xi.up (pc' := 144) (fun _ _ k => x_iconst dX5_readChoose_143 (show inR 1 from ⟨by decide, by decide⟩) k) ?_
          obtain ⟨g11, h⟩ := h
          refine Xi.up (pc' := 145) (fun _ _ k => x_iadd dX5_readChoose_144 g11 k) ?_
          refine Xi.up (pc' := 148) (fun _ _ k => x_putIK hK7 lf5_32 rfl rfl (Or.inl rfl) dX5_readChoose_145 h0.1 k) ?_
          have hK12 := KW.sI hK7 5 4 ((mI M5 5 4) + 1)
          obtain ⟨g13, h⟩ := h
          refine Xi.up (pc' := 151) (L' := [some (zr 5), none, some (zi (l2 + 1))]) (fun _ _ k => x_iinc dX5_readChoose_148 rfl g13 (by decide) rfl k) ?_
          refine Xi.up (pc' := 85) (fun _ _ k => x_goto dX5_readChoose_151 rfl k) ?_
          exact h
      · have h := h.2 c
        refine Xi.up (pc' := 124) (fun _ _ k => x_aload_n dX5_readChoose_123 rfl rfl k) ?_
        refine Xi.up (pc' := 126) (fun _ _ k => x_bipush dX5_readChoose_124 (show inR 125 from ⟨by decide, by decide⟩) (by decide) k) ?_
        obtain ⟨x15, M14, hc17, hK16, h⟩ := h
        refine Xi.up (pc' := 129) (st' := [zi x15]) (fun _ _ k => x_callVK (ci := 5) (as := [zi 125]) (st := []) hK7 k5_readSign lm5_108 dX5_readChoose_126 rfl (by decide) (zs8 rfl) h0.1 ⟨_, _, rfl⟩ hc17 k) ?_
        obtain ⟨g18, h⟩ := h
        exact Xi.ret ⟨dX5_readChoose_129, Or.inr ⟨rfl, g18⟩⟩ h
    · have h := h.2 c
      refine Xi.up (pc' := 106) (fun _ _ k => x_iconst dX5_readChoose_105 (show inR 0 from ⟨by decide, by decide⟩) k) ?_
      exact Xi.ret ⟨dX5_readChoose_106, Or.inr ⟨rfl, Or.inl rfl⟩⟩ h
set_option maxHeartbeats 4000000 in
set_option maxRecDepth 20000 in
theorem B5_readTest {d : Nat} {K M : ZMem} {Q : Int → ZMem → Prop}  (hK : KW K M) (h0 : ReaderAt K 5) (h : Ci d q7_at [zr 3, zi (mI M 5 4)] M (fun x2 M1 => KW K M1 ∧ Ci d q5_isVariable [zi x2] M1 (fun x6 M5 => KW K M5 ∧ ((x6 ≠ 0 → (Ci d q5_addStatement [zr 5, zi 2, zi 0] M5 (fun x10 M9 => KW K M9 ∧ Ci d q5_readFormula [zr 5, zr 17] M9 (fun x14 M13 => KW K M13 ∧ ((x14 ≠ 0 → (Ci d q7_at [zr 3, zi (mI M13 5 4)] M13 (fun x18 M17 => KW K M17 ∧ ((x18 = 60 → (Cv d q4_setDetail [zr 8, zi x10, zi x18] M17 (fun M21 => KW K M21 ∧ (inR ((mI M21 5 4) + 1)) ∧ Ci d q5_readFormula [zr 5, zr 17] (sI M21 5 4 ((mI M21 5 4) + 1)) (fun x27 M26 => KW K M26 ∧ (x27 = 0 ∨ x27 = 1) ∧ Q x27 M26)))) ∧ (¬ (x18 = 60) → ((x18 = 61 → (Cv d q4_setDetail [zr 8, zi x10, zi x18] M17 (fun M31 => KW K M31 ∧ (inR ((mI M31 5 4) + 1)) ∧ Ci d q5_readFormula [zr 5, zr 17] (sI M31 5 4 ((mI M31 5 4) + 1)) (fun x37 M36 => KW K M36 ∧ (x37 = 0 ∨ x37 = 1) ∧ Q x37 M36)))) ∧ (¬ (x18 = 61) → ((x18 = 62 → (Cv d q4_setDetail [zr 8, zi x10, zi x18] M17 (fun M41 => KW K M41 ∧ (inR ((mI M41 5 4) + 1)) ∧ Ci d q5_readFormula [zr 5, zr 17] (sI M41 5 4 ((mI M41 5 4) + 1)) (fun x47 M46 => KW K M46 ∧ (x47 = 0 ∨ x47 = 1) ∧ Q x47 M46)))) ∧ (¬ (x18 = 62) → ((x18 = 35 → (Cv d q4_setDetail [zr 8, zi x10, zi x18] M17 (fun M51 => KW K M51 ∧ (inR ((mI M51 5 4) + 1)) ∧ Ci d q5_readFormula [zr 5, zr 17] (sI M51 5 4 ((mI M51 5 4) + 1)) (fun x57 M56 => KW K M56 ∧ (x57 = 0 ∨ x57 = 1) ∧ Q x57 M56)))) ∧ (¬ (x18 = 35) → (Q 0 M17)))))))))))) ∧ (¬ (x14 ≠ 0) → (Q 0 M13))))))) ∧ (¬ (x6 ≠ 0) → (Ci d q5_isDigit [zi x2] M5 (fun x62 M61 => KW K M61 ∧ ((x62 ≠ 0 → (Ci d q5_addStatement [zr 5, zi 2, zi 0] M61 (fun x66 M65 => KW K M65 ∧ Ci d q5_readFormula [zr 5, zr 17] M65 (fun x70 M69 => KW K M69 ∧ ((x70 ≠ 0 → (Ci d q7_at [zr 3, zi (mI M69 5 4)] M69 (fun x74 M73 => KW K M73 ∧ ((x74 = 60 → (Cv d q4_setDetail [zr 8, zi x66, zi x74] M73 (fun M77 => KW K M77 ∧ (inR ((mI M77 5 4) + 1)) ∧ Ci d q5_readFormula [zr 5, zr 17] (sI M77 5 4 ((mI M77 5 4) + 1)) (fun x83 M82 => KW K M82 ∧ (x83 = 0 ∨ x83 = 1) ∧ Q x83 M82)))) ∧ (¬ (x74 = 60) → ((x74 = 61 → (Cv d q4_setDetail [zr 8, zi x66, zi x74] M73 (fun M87 => KW K M87 ∧ (inR ((mI M87 5 4) + 1)) ∧ Ci d q5_readFormula [zr 5, zr 17] (sI M87 5 4 ((mI M87 5 4) + 1)) (fun x93 M92 => KW K M92 ∧ (x93 = 0 ∨ x93 = 1) ∧ Q x93 M92)))) ∧ (¬ (x74 = 61) → ((x74 = 62 → (Cv d q4_setDetail [zr 8, zi x66, zi x74] M73 (fun M97 => KW K M97 ∧ (inR ((mI M97 5 4) + 1)) ∧ Ci d q5_readFormula [zr 5, zr 17] (sI M97 5 4 ((mI M97 5 4) + 1)) (fun x103 M102 => KW K M102 ∧ (x103 = 0 ∨ x103 = 1) ∧ Q x103 M102)))) ∧ (¬ (x74 = 62) → ((x74 = 35 → (Cv d q4_setDetail [zr 8, zi x66, zi x74] M73 (fun M107 => KW K M107 ∧ (inR ((mI M107 5 4) + 1)) ∧ Ci d q5_readFormula [zr 5, zr 17] (sI M107 5 4 ((mI M107 5 4) + 1)) (fun x113 M112 => KW K M112 ∧ (x113 = 0 ∨ x113 = 1) ∧ Q x113 M112)))) ∧ (¬ (x74 = 35) → (Q 0 M73)))))))))))) ∧ (¬ (x70 ≠ 0) → (Q 0 M69))))))) ∧ (¬ (x62 ≠ 0) → ((x2 = 45 → (Ci d q5_addStatement [zr 5, zi 2, zi 0] M61 (fun x118 M117 => KW K M117 ∧ Ci d q5_readFormula [zr 5, zr 17] M117 (fun x122 M121 => KW K M121 ∧ ((x122 ≠ 0 → (Ci d q7_at [zr 3, zi (mI M121 5 4)] M121 (fun x126 M125 => KW K M125 ∧ ((x126 = 60 → (Cv d q4_setDetail [zr 8, zi x118, zi x126] M125 (fun M129 => KW K M129 ∧ (inR ((mI M129 5 4) + 1)) ∧ Ci d q5_readFormula [zr 5, zr 17] (sI M129 5 4 ((mI M129 5 4) + 1)) (fun x135 M134 => KW K M134 ∧ (x135 = 0 ∨ x135 = 1) ∧ Q x135 M134)))) ∧ (¬ (x126 = 60) → ((x126 = 61 → (Cv d q4_setDetail [zr 8, zi x118, zi x126] M125 (fun M139 => KW K M139 ∧ (inR ((mI M139 5 4) + 1)) ∧ Ci d q5_readFormula [zr 5, zr 17] (sI M139 5 4 ((mI M139 5 4) + 1)) (fun x145 M144 => KW K M144 ∧ (x145 = 0 ∨ x145 = 1) ∧ Q x145 M144)))) ∧ (¬ (x126 = 61) → ((x126 = 62 → (Cv d q4_setDetail [zr 8, zi x118, zi x126] M125 (fun M149 => KW K M149 ∧ (inR ((mI M149 5 4) + 1)) ∧ Ci d q5_readFormula [zr 5, zr 17] (sI M149 5 4 ((mI M149 5 4) + 1)) (fun x155 M154 => KW K M154 ∧ (x155 = 0 ∨ x155 = 1) ∧ Q x155 M154)))) ∧ (¬ (x126 = 62) → ((x126 = 35 → (Cv d q4_setDetail [zr 8, zi x118, zi x126] M125 (fun M159 => KW K M159 ∧ (inR ((mI M159 5 4) + 1)) ∧ Ci d q5_readFormula [zr 5, zr 17] (sI M159 5 4 ((mI M159 5 4) + 1)) (fun x165 M164 => KW K M164 ∧ (x165 = 0 ∨ x165 = 1) ∧ Q x165 M164)))) ∧ (¬ (x126 = 35) → (Q 0 M125)))))))))))) ∧ (¬ (x122 ≠ 0) → (Q 0 M121))))))) ∧ (¬ (x2 = 45) → (Q 0 M61)))))))))))) : Ci (d + 1) q5_readTest [zr 5] M Q := by
  refine Ci.of rfl rfl (Nat.le_of_ble_eq_true rfl) (fun w hw x e => by subst e; simp at hw) (L := [some (zr 5), none, none, none]) rfl ?_
  refine Xi.up (pc' := 1) (fun _ _ k => x_aload_n dX5_readTest_0 rfl rfl k) ?_
  refine Xi.up (pc' := 4) (fun _ _ k => x_getRK hK lf5_9 rfl dX5_readTest_1 h0.1 h0.2.1 k) ?_
  refine Xi.up (pc' := 5) (fun _ _ k => x_aload_n dX5_readTest_4 rfl rfl k) ?_
  refine Xi.up (pc' := 8) (fun _ _ k => x_getIK hK lf5_32 rfl dX5_readTest_5 h0.1 k) ?_
  obtain ⟨x2, M1, hc4, hK3, h⟩ := h
  refine Xi.up (pc' := 11) (st' := [zi x2]) (fun _ _ k => x_callVK (ci := 7) (as := [zi (mI M 5 4)]) (st := []) hK k7_at lm5_71 dX5_readTest_8 rfl (by decide) (zs8 rfl) h0.2.2.2.2.2.2.2.1.1 ⟨_, _, rfl⟩ hc4 k) ?_
  refine Xi.up (pc' := 12) (L' := [some (zr 5), some (zi x2), none, none]) (fun _ _ k => x_istore_n dX5_readTest_11 rfl (by decide) rfl k) ?_
  refine Xi.up (pc' := 13) (fun _ _ k => x_iload_n dX5_readTest_12 rfl rfl k) ?_
  obtain ⟨x6, M5, hc8, hK7, h⟩ := h
  refine Xi.up (pc' := 16) (st' := [zi x6]) (fun _ _ k => x_callS (as := [zi x2]) (st := []) k5_isVariable lm5_83 dX5_readTest_13 rfl (by decide) (zs8 rfl) hc8 k) ?_
  refine Xi.br (tgt := 34) (pc' := 19) (x6 ≠ 0) (fun _ _ kt kf => x_if_ne dX5_readTest_16 rfl kt kf) (fun c => ?_) (fun c => ?_)
  · have h := h.1 c
    refine Xi.up (pc' := 35) (fun _ _ k => x_aload_n dX5_readTest_34 rfl rfl k) ?_
    refine Xi.up (pc' := 36) (fun _ _ k => x_iconst dX5_readTest_35 (show inR 2 from ⟨by decide, by decide⟩) k) ?_
    refine Xi.up (pc' := 37) (fun _ _ k => x_iconst dX5_readTest_36 (show inR 0 from ⟨by decide, by decide⟩) k) ?_
    obtain ⟨x10, M9, hc12, hK11, h⟩ := h
    refine Xi.up (pc' := 40) (st' := [zi x10]) (fun _ _ k => x_callVK (ci := 5) (as := [zi 2, zi 0]) (st := []) hK7 k5_addStatement lm5_75 dX5_readTest_37 rfl (by decide) (zs8 rfl) h0.1 ⟨_, _, rfl⟩ hc12 k) ?_
    refine Xi.up (pc' := 41) (L' := [some (zr 5), some (zi x2), some (zi x10), none]) (fun _ _ k => x_istore_n dX5_readTest_40 rfl (by decide) rfl k) ?_
    refine Xi.up (pc' := 42) (fun _ _ k => x_aload_n dX5_readTest_41 rfl rfl k) ?_
    refine Xi.up (pc' := 43) (fun _ _ k => x_aload_n dX5_readTest_42 rfl rfl k) ?_
    refine Xi.up (pc' := 46) (fun _ _ k => x_getRK hK11 lf5_25 rfl dX5_readTest_43 h0.1 h0.2.2.2.2.1 k) ?_
    refine Xi.up (pc' := 49) (fun _ _ k => x_getRK hK11 lf5_86 rfl dX5_readTest_46 h0.2.2.2.2.2.2.2.2.1 h0.2.2.2.2.2.2.2.2.2.2.2.2.2.2.2.2.2.1 k) ?_
    obtain ⟨x14, M13, hc16, hK15, h⟩ := h
    refine Xi.up (pc' := 52) (st' := [zi x14]) (fun _ _ k => x_callVK (ci := 5) (as := [zr 17]) (st := []) hK11 k5_readFormula lm5_61 dX5_readTest_49 rfl (by decide) (zs8 rfl) h0.1 ⟨_, _, rfl⟩ hc16 k) ?_
    refine Xi.br (tgt := 57) (pc' := 55) (x14 ≠ 0) (fun _ _ kt kf => x_if_ne dX5_readTest_52 rfl kt kf) (fun c => ?_) (fun c => ?_)
    · have h := h.1 c
      refine Xi.up (pc' := 58) (fun _ _ k => x_aload_n dX5_readTest_57 rfl rfl k) ?_
      refine Xi.up (pc' := 61) (fun _ _ k => x_getRK hK15 lf5_9 rfl dX5_readTest_58 h0.1 h0.2.1 k) ?_
      refine Xi.up (pc' := 62) (fun _ _ k => x_aload_n dX5_readTest_61 rfl rfl k) ?_
      refine Xi.up (pc' := 65) (fun _ _ k => x_getIK hK15 lf5_32 rfl dX5_readTest_62 h0.1 k) ?_
      obtain ⟨x18, M17, hc20, hK19, h⟩ := h
      refine Xi.up (pc' := 68) (st' := [zi x18]) (fun _ _ k => x_callVK (ci := 7) (as := [zi (mI M13 5 4)]) (st := []) hK15 k7_at lm5_71 dX5_readTest_65 rfl (by decide) (zs8 rfl) h0.2.2.2.2.2.2.2.1.1 ⟨_, _, rfl⟩ hc20 k) ?_
      refine Xi.up (pc' := 69) (L' := [some (zr 5), some (zi x2), some (zi x10), some (zi x18)]) (fun _ _ k => x_istore_n dX5_readTest_68 rfl (by decide) rfl k) ?_
      refine Xi.up (pc' := 70) (fun _ _ k => x_iload_n dX5_readTest_69 rfl rfl k) ?_
      refine Xi.up (pc' := 72) (fun _ _ k => x_bipush dX5_readTest_70 (show inR 60 from ⟨by decide, by decide⟩) (by decide) k) ?_
      refine Xi.br (tgt := 95) (pc' := 75) (x18 = 60) (fun _ _ kt kf => x_icmp_eq dX5_readTest_72 rfl kt kf) (fun c => ?_) (fun c => ?_)
      · have h := h.1 c
        refine Xi.up (pc' := 96) (fun _ _ k => x_aload_n dX5_readTest_95 rfl rfl k) ?_
        refine Xi.up (pc' := 99) (fun _ _ k => x_getRK hK19 lf5_25 rfl dX5_readTest_96 h0.1 h0.2.2.2.2.1 k) ?_
        refine Xi.up (pc' := 100) (fun _ _ k => x_iload_n dX5_readTest_99 rfl rfl k) ?_
        refine Xi.up (pc' := 101) (fun _ _ k => x_iload_n dX5_readTest_100 rfl rfl k) ?_
        obtain ⟨M21, hc23, hK22, h⟩ := h
        refine Xi.up (pc' := 104) (st' := []) (fun _ _ k => x_callVK (ci := 4) (as := [zi x10, zi x18]) (st := []) hK19 k4_setDetail lm5_114 dX5_readTest_101 rfl (by decide) (zs8 rfl) h0.2.2.2.2.2.2.2.2.1 ⟨_, _, rfl⟩ hc23 k) ?_
        refine Xi.up (pc' := 105) (fun _ _ k => x_aload_n dX5_readTest_104 rfl rfl k) ?_
        refine Xi.up (pc' := 106) (fun _ _ k => x_dupR dX5_readTest_105 k) ?_
        refine Xi.up (pc' := 109) (fun _ _ k => x_getIK hK22 lf5_32 rfl dX5_readTest_106 h0.1 k) ?_
        refine Xi.up (pc' := 110) (fun _ _ k => x_iconst dX5_readTest_109 (show inR 1 from ⟨by decide, by decide⟩) k) ?_
        obtain ⟨g24, h⟩ := h
        refine Xi.up (pc' := 111) (fun _ _ k => x_iadd dX5_readTest_110 g24 k) ?_
        refine Xi.up (pc' := 114) (fun _ _ k => x_putIK hK22 lf5_32 rfl rfl (Or.inl rfl) dX5_readTest_111 h0.1 k) ?_
        have hK25 := KW.sI hK22 5 4 ((mI M21 5 4) + 1)
        refine Xi.up (pc' := 115) (fun _ _ k => x_aload_n dX5_readTest_114 rfl rfl k) ?_
        refine Xi.up (pc' := 116) (fun _ _ k => x_aload_n dX5_readTest_115 rfl rfl k) ?_
        refine Xi.up (pc' := 119) (fun _ _ k => x_getRK hK25 lf5_25 rfl dX5_readTest_116 h0.1 h0.2.2.2.2.1 k) ?_
        refine Xi.up (pc' := 122) (fun _ _ k => x_getRK hK25 lf5_86 rfl dX5_readTest_119 h0.2.2.2.2.2.2.2.2.1 h0.2.2.2.2.2.2.2.2.2.2.2.2.2.2.2.2.2.1 k) ?_
        obtain ⟨x27, M26, hc29, hK28, h⟩ := h
        refine Xi.up (pc' := 125) (st' := [zi x27]) (fun _ _ k => x_callVK (ci := 5) (as := [zr 17]) (st := []) hK25 k5_readFormula lm5_61 dX5_readTest_122 rfl (by decide) (zs8 rfl) h0.1 ⟨_, _, rfl⟩ hc29 k) ?_
        obtain ⟨g30, h⟩ := h
        exact Xi.ret ⟨dX5_readTest_125, Or.inr ⟨rfl, g30⟩⟩ h
      · have h := h.2 c
        refine Xi.up (pc' := 76) (fun _ _ k => x_iload_n dX5_readTest_75 rfl rfl k) ?_
        refine Xi.up (pc' := 78) (fun _ _ k => x_bipush dX5_readTest_76 (show inR 61 from ⟨by decide, by decide⟩) (by decide) k) ?_
        refine Xi.br (tgt := 95) (pc' := 81) (x18 = 61) (fun _ _ kt kf => x_icmp_eq dX5_readTest_78 rfl kt kf) (fun c => ?_) (fun c => ?_)
        · have h := h.1 c
          refine Xi.up (pc' := 96) (fun _ _ k => x_aload_n dX5_readTest_95 rfl rfl k) ?_
          refine Xi.up (pc' := 99) (fun _ _ k => x_getRK hK19 lf5_25 rfl dX5_readTest_96 h0.1 h0.2.2.2.2.1 k) ?_
          refine Xi.up (pc' := 100) (fun _ _ k => x_iload_n dX5_readTest_99 rfl rfl k) ?_
          refine Xi.up (pc' := 101) (fun _ _ k => x_iload_n dX5_readTest_100 rfl rfl k) ?_
          obtain ⟨M31, hc33, hK32, h⟩ := h
          refine Xi.up (pc' := 104) (st' := []) (fun _ _ k => x_callVK (ci := 4) (as := [zi x10, zi x18]) (st := []) hK19 k4_setDetail lm5_114 dX5_readTest_101 rfl (by decide) (zs8 rfl) h0.2.2.2.2.2.2.2.2.1 ⟨_, _, rfl⟩ hc33 k) ?_
          refine Xi.up (pc' := 105) (fun _ _ k => x_aload_n dX5_readTest_104 rfl rfl k) ?_
          refine Xi.up (pc' := 106) (fun _ _ k => x_dupR dX5_readTest_105 k) ?_
          refine Xi.up (pc' := 109) (fun _ _ k => x_getIK hK32 lf5_32 rfl dX5_readTest_106 h0.1 k) ?_
          refine Xi.up (pc' := 110) (fun _ _ k => x_iconst dX5_readTest_109 (show inR 1 from ⟨by decide, by decide⟩) k) ?_
          obtain ⟨g34, h⟩ := h
          refine Xi.up (pc' := 111) (fun _ _ k => x_iadd dX5_readTest_110 g34 k) ?_
          refine Xi.up (pc' := 114) (fun _ _ k => x_putIK hK32 lf5_32 rfl rfl (Or.inl rfl) dX5_readTest_111 h0.1 k) ?_
          have hK35 := KW.sI hK32 5 4 ((mI M31 5 4) + 1)
          refine Xi.up (pc' := 115) (fun _ _ k => x_aload_n dX5_readTest_114 rfl rfl k) ?_
          refine Xi.up (pc' := 116) (fun _ _ k => x_aload_n dX5_readTest_115 rfl rfl k) ?_
          refine Xi.up (pc' := 119) (fun _ _ k => x_getRK hK35 lf5_25 rfl dX5_readTest_116 h0.1 h0.2.2.2.2.1 k) ?_
          refine Xi.up (pc' := 122) (fun _ _ k => x_getRK hK35 lf5_86 rfl dX5_readTest_119 h0.2.2.2.2.2.2.2.2.1 h0.2.2.2.2.2.2.2.2.2.2.2.2.2.2.2.2.2.1 k) ?_
          obtain ⟨x37, M36, hc39, hK38, h⟩ := h
          refine Xi.up (pc' := 125) (st' := [zi x37]) (fun _ _ k => x_callVK (ci := 5) (as := [zr 17]) (st := []) hK35 k5_readFormula lm5_61 dX5_readTest_122 rfl (by decide) (zs8 rfl) h0.1 ⟨_, _, rfl⟩ hc39 k) ?_
          obtain ⟨g40, h⟩ := h
          exact Xi.ret ⟨dX5_readTest_125, Or.inr ⟨rfl, g40⟩⟩ h
        · have h := h.2 c
          refine Xi.up (pc' := 82) (fun _ _ k => x_iload_n dX5_readTest_81 rfl rfl k) ?_
          refine Xi.up (pc' := 84) (fun _ _ k => x_bipush dX5_readTest_82 (show inR 62 from ⟨by decide, by decide⟩) (by decide) k) ?_
          refine Xi.br (tgt := 95) (pc' := 87) (x18 = 62) (fun _ _ kt kf => x_icmp_eq dX5_readTest_84 rfl kt kf) (fun c => ?_) (fun c => ?_)
          · have h := h.1 c
            refine Xi.up (pc' := 96) (fun _ _ k => x_aload_n dX5_readTest_95 rfl rfl k) ?_
            refine Xi.up (pc' := 99) (fun _ _ k => x_getRK hK19 lf5_25 rfl dX5_readTest_96 h0.1 h0.2.2.2.2.1 k) ?_
            refine Xi.up (pc' := 100) (fun _ _ k => x_iload_n dX5_readTest_99 rfl rfl k) ?_
            refine Xi.up (pc' := 101) (fun _ _ k => x_iload_n dX5_readTest_100 rfl rfl k) ?_
            obtain ⟨M41, hc43, hK42, h⟩ := h
            refine Xi.up (pc' := 104) (st' := []) (fun _ _ k => x_callVK (ci := 4) (as := [zi x10, zi x18]) (st := []) hK19 k4_setDetail lm5_114 dX5_readTest_101 rfl (by decide) (zs8 rfl) h0.2.2.2.2.2.2.2.2.1 ⟨_, _, rfl⟩ hc43 k) ?_
            refine Xi.up (pc' := 105) (fun _ _ k => x_aload_n dX5_readTest_104 rfl rfl k) ?_
            refine Xi.up (pc' := 106) (fun _ _ k => x_dupR dX5_readTest_105 k) ?_
            refine Xi.up (pc' := 109) (fun _ _ k => x_getIK hK42 lf5_32 rfl dX5_readTest_106 h0.1 k) ?_
            refine Xi.up (pc' := 110) (fun _ _ k => x_iconst dX5_readTest_109 (show inR 1 from ⟨by decide, by decide⟩) k) ?_
            obtain ⟨g44, h⟩ := h
            refine Xi.up (pc' := 111) (fun _ _ k => x_iadd dX5_readTest_110 g44 k) ?_
            refine Xi.up (pc' := 114) (fun _ _ k => x_putIK hK42 lf5_32 rfl rfl (Or.inl rfl) dX5_readTest_111 h0.1 k) ?_
            have hK45 := KW.sI hK42 5 4 ((mI M41 5 4) + 1)
            refine Xi.up (pc' := 115) (fun _ _ k => x_aload_n dX5_readTest_114 rfl rfl k) ?_
            refine Xi.up (pc' := 116) (fun _ _ k => x_aload_n dX5_readTest_115 rfl rfl k) ?_
            refine Xi.up (pc' := 119) (fun _ _ k => x_getRK hK45 lf5_25 rfl dX5_readTest_116 h0.1 h0.2.2.2.2.1 k) ?_
            refine Xi.up (pc' := 122) (fun _ _ k => x_getRK hK45 lf5_86 rfl dX5_readTest_119 h0.2.2.2.2.2.2.2.2.1 h0.2.2.2.2.2.2.2.2.2.2.2.2.2.2.2.2.2.1 k) ?_
            obtain ⟨x47, M46, hc49, hK48, h⟩ := h
            refine Xi.up (pc' := 125) (st' := [zi x47]) (fun _ _ k => x_callVK (ci := 5) (as := [zr 17]) (st := []) hK45 k5_readFormula lm5_61 dX5_readTest_122 rfl (by decide) (zs8 rfl) h0.1 ⟨_, _, rfl⟩ hc49 k) ?_
            obtain ⟨g50, h⟩ := h
            exact Xi.ret ⟨dX5_readTest_125, Or.inr ⟨rfl, g50⟩⟩ h
          · have h := h.2 c
            refine Xi.up (pc' := 88) (fun _ _ k => x_iload_n dX5_readTest_87 rfl rfl k) ?_
            refine Xi.up (pc' := 90) (fun _ _ k => x_bipush dX5_readTest_88 (show inR 35 from ⟨by decide, by decide⟩) (by decide) k) ?_
            refine Xi.br (tgt := 95) (pc' := 93) (x18 = 35) (fun _ _ kt kf => x_icmp_eq dX5_readTest_90 rfl kt kf) (fun c => ?_) (fun c => ?_)
            · have h := h.1 c
              refine Xi.up (pc' := 96) (fun _ _ k => x_aload_n dX5_readTest_95 rfl rfl k) ?_
              refine Xi.up (pc' := 99) (fun _ _ k => x_getRK hK19 lf5_25 rfl dX5_readTest_96 h0.1 h0.2.2.2.2.1 k) ?_
              refine Xi.up (pc' := 100) (fun _ _ k => x_iload_n dX5_readTest_99 rfl rfl k) ?_
              refine Xi.up (pc' := 101) (fun _ _ k => x_iload_n dX5_readTest_100 rfl rfl k) ?_
              obtain ⟨M51, hc53, hK52, h⟩ := h
              refine Xi.up (pc' := 104) (st' := []) (fun _ _ k => x_callVK (ci := 4) (as := [zi x10, zi x18]) (st := []) hK19 k4_setDetail lm5_114 dX5_readTest_101 rfl (by decide) (zs8 rfl) h0.2.2.2.2.2.2.2.2.1 ⟨_, _, rfl⟩ hc53 k) ?_
              refine Xi.up (pc' := 105) (fun _ _ k => x_aload_n dX5_readTest_104 rfl rfl k) ?_
              refine Xi.up (pc' := 106) (fun _ _ k => x_dupR dX5_readTest_105 k) ?_
              refine Xi.up (pc' := 109) (fun _ _ k => x_getIK hK52 lf5_32 rfl dX5_readTest_106 h0.1 k) ?_
              refine Xi.up (pc' := 110) (fun _ _ k => x_iconst dX5_readTest_109 (show inR 1 from ⟨by decide, by decide⟩) k) ?_
              obtain ⟨g54, h⟩ := h
              refine Xi.up (pc' := 111) (fun _ _ k => x_iadd dX5_readTest_110 g54 k) ?_
              refine Xi.up (pc' := 114) (fun _ _ k => x_putIK hK52 lf5_32 rfl rfl (Or.inl rfl) dX5_readTest_111 h0.1 k) ?_
              have hK55 := KW.sI hK52 5 4 ((mI M51 5 4) + 1)
              refine Xi.up (pc' := 115) (fun _ _ k => x_aload_n dX5_readTest_114 rfl rfl k) ?_
              refine Xi.up (pc' := 116) (fun _ _ k => x_aload_n dX5_readTest_115 rfl rfl k) ?_
              refine Xi.up (pc' := 119) (fun _ _ k => x_getRK hK55 lf5_25 rfl dX5_readTest_116 h0.1 h0.2.2.2.2.1 k) ?_
              refine Xi.up (pc' := 122) (fun _ _ k => x_getRK hK55 lf5_86 rfl dX5_readTest_119 h0.2.2.2.2.2.2.2.2.1 h0.2.2.2.2.2.2.2.2.2.2.2.2.2.2.2.2.2.1 k) ?_
              obtain ⟨x57, M56, hc59, hK58, h⟩ := h
              refine Xi.up (pc' := 125) (st' := [zi x57]) (fun _ _ k => x_callVK (ci := 5) (as := [zr 17]) (st := []) hK55 k5_readFormula lm5_61 dX5_readTest_122 rfl (by decide) (zs8 rfl) h0.1 ⟨_, _, rfl⟩ hc59 k) ?_
              obtain ⟨g60, h⟩ := h
              exact Xi.ret ⟨dX5_readTest_125, Or.inr ⟨rfl, g60⟩⟩ h
            · have h := h.2 c
              refine Xi.up (pc' := 94) (fun _ _ k => x_iconst dX5_readTest_93 (show inR 0 from ⟨by decide, by decide⟩) k) ?_
              exact Xi.ret ⟨dX5_readTest_94, Or.inr ⟨rfl, Or.inl rfl⟩⟩ h
    · have h := h.2 c
      refine Xi.up (pc' := 56) (fun _ _ k => x_iconst dX5_readTest_55 (show inR 0 from ⟨by decide, by decide⟩) k) ?_
      exact Xi.ret ⟨dX5_readTest_56, Or.inr ⟨rfl, Or.inl rfl⟩⟩ h
  · have h := h.2 c
    refine Xi.up (pc' := 20) (fun _ _ k => x_iload_n dX5_readTest_19 rfl rfl k) ?_
    obtain ⟨x62, M61, hc64, hK63, h⟩ := h
    refine Xi.up (pc' := 23) (st' := [zi x62]) (fun _ _ k => x_callS (as := [zi x2]) (st := []) k5_isDigit lm5_111 dX5_readTest_20 rfl (by decide) (zs8 rfl) hc64 k) ?_
    refine Xi.br (tgt := 34) (pc' := 26) (x62 ≠ 0) (fun _ _ kt kf => x_if_ne dX5_readTest_23 rfl kt kf) (fun c => ?_) (fun c => ?_)
    · have h := h.1 c
      refine Xi.up (pc' := 35) (fun _ _ k => x_aload_n dX5_readTest_34 rfl rfl k) ?_
      refine Xi.up (pc' := 36) (fun _ _ k => x_iconst dX5_readTest_35 (show inR 2 from ⟨by decide, by decide⟩) k) ?_
      refine Xi.up (pc' := 37) (fun _ _ k => x_iconst dX5_readTest_36 (show inR 0 from ⟨by decide, by decide⟩) k) ?_
      obtain ⟨x66, M65, hc68, hK67, h⟩ := h
      refine Xi.up (pc' := 40) (st' := [zi x66]) (fun _ _ k => x_callVK (ci := 5) (as := [zi 2, zi 0]) (st := []) hK63 k5_addStatement lm5_75 dX5_readTest_37 rfl (by decide) (zs8 rfl) h0.1 ⟨_, _, rfl⟩ hc68 k) ?_
      refine Xi.up (pc' := 41) (L' := [some (zr 5), some (zi x2), some (zi x66), none]) (fun _ _ k => x_istore_n dX5_readTest_40 rfl (by decide) rfl k) ?_
      refine Xi.up (pc' := 42) (fun _ _ k => x_aload_n dX5_readTest_41 rfl rfl k) ?_
      refine Xi.up (pc' := 43) (fun _ _ k => x_aload_n dX5_readTest_42 rfl rfl k) ?_
      refine Xi.up (pc' := 46) (fun _ _ k => x_getRK hK67 lf5_25 rfl dX5_readTest_43 h0.1 h0.2.2.2.2.1 k) ?_
      refine Xi.up (pc' := 49) (fun _ _ k => x_getRK hK67 lf5_86 rfl dX5_readTest_46 h0.2.2.2.2.2.2.2.2.1 h0.2.2.2.2.2.2.2.2.2.2.2.2.2.2.2.2.2.1 k) ?_
      obtain ⟨x70, M69, hc72, hK71, h⟩ := h
      refine Xi.up (pc' := 52) (st' := [zi x70]) (fun _ _ k => x_callVK (ci := 5) (as := [zr 17]) (st := []) hK67 k5_readFormula lm5_61 dX5_readTest_49 rfl (by decide) (zs8 rfl) h0.1 ⟨_, _, rfl⟩ hc72 k) ?_
      refine Xi.br (tgt := 57) (pc' := 55) (x70 ≠ 0) (fun _ _ kt kf => x_if_ne dX5_readTest_52 rfl kt kf) (fun c => ?_) (fun c => ?_)
      · have h := h.1 c
        refine Xi.up (pc' := 58) (fun _ _ k => x_aload_n dX5_readTest_57 rfl rfl k) ?_
        refine Xi.up (pc' := 61) (fun _ _ k => x_getRK hK71 lf5_9 rfl dX5_readTest_58 h0.1 h0.2.1 k) ?_
        refine Xi.up (pc' := 62) (fun _ _ k => x_aload_n dX5_readTest_61 rfl rfl k) ?_
        refine Xi.up (pc' := 65) (fun _ _ k => x_getIK hK71 lf5_32 rfl dX5_readTest_62 h0.1 k) ?_
        obtain ⟨x74, M73, hc76, hK75, h⟩ := h
        refine Xi.up (pc' := 68) (st' := [zi x74]) (fun _ _ k => x_callVK (ci := 7) (as := [zi (mI M69 5 4)]) (st := []) hK71 k7_at lm5_71 dX5_readTest_65 rfl (by decide) (zs8 rfl) h0.2.2.2.2.2.2.2.1.1 ⟨_, _, rfl⟩ hc76 k) ?_
        refine Xi.up (pc' := 69) (L' := [some (zr 5), some (zi x2), some (zi x66), some (zi x74)]) (fun _ _ k => x_istore_n dX5_readTest_68 rfl (by decide) rfl k) ?_
        refine Xi.up (pc' := 70) (fun _ _ k => x_iload_n dX5_readTest_69 rfl rfl k) ?_
        refine Xi.up (pc' := 72) (fun _ _ k => x_bipush dX5_readTest_70 (show inR 60 from ⟨by decide, by decide⟩) (by decide) k) ?_
        refine Xi.br (tgt := 95) (pc' := 75) (x74 = 60) (fun _ _ kt kf => x_icmp_eq dX5_readTest_72 rfl kt kf) (fun c => ?_) (fun c => ?_)
        · have h := h.1 c
          refine Xi.up (pc' := 96) (fun _ _ k => x_aload_n dX5_readTest_95 rfl rfl k) ?_
          refine Xi.up (pc' := 99) (fun _ _ k => x_getRK hK75 lf5_25 rfl dX5_readTest_96 h0.1 h0.2.2.2.2.1 k) ?_
          refine Xi.up (pc' := 100) (fun _ _ k => x_iload_n dX5_readTest_99 rfl rfl k) ?_
          refine Xi.up (pc' := 101) (fun _ _ k => x_iload_n dX5_readTest_100 rfl rfl k) ?_
          obtain ⟨M77, hc79, hK78, h⟩ := h
          refine Xi.up (pc' := 104) (st' := []) (fun _ _ k => x_callVK (ci := 4) (as := [zi x66, zi x74]) (st := []) hK75 k4_setDetail lm5_114 dX5_readTest_101 rfl (by decide) (zs8 rfl) h0.2.2.2.2.2.2.2.2.1 ⟨_, _, rfl⟩ hc79 k) ?_
          refine Xi.up (pc' := 105) (fun _ _ k => x_aload_n dX5_readTest_104 rfl rfl k) ?_
          refine Xi.up (pc' := 106) (fun _ _ k => x_dupR dX5_readTest_105 k) ?_
          refine Xi.up (pc' := 109) (fun _ _ k => x_getIK hK78 lf5_32 rfl dX5_readTest_106 h0.1 k) ?_
          refine Xi.up (pc' := 110) (fun _ _ k => x_iconst dX5_readTest_109 (show inR 1 from ⟨by decide, by decide⟩) k) ?_
          obtain ⟨g80, h⟩ := h
          refine Xi.up (pc' := 111) (fun _ _ k => x_iadd dX5_readTest_110 g80 k) ?_
          refine Xi.up (pc' := 114) (fun _ _ k => x_putIK hK78 lf5_32 rfl rfl (Or.inl rfl) dX5_readTest_111 h0.1 k) ?_
          have hK81 := KW.sI hK78 5 4 ((mI M77 5 4) + 1)
          refine Xi.up (pc' := 115) (fun _ _ k => x_aload_n dX5_readTest_114 rfl rfl k) ?_
          refine Xi.up (pc' := 116) (fun _ _ k => x_aload_n dX5_readTest_115 rfl rfl k) ?_
          refine Xi.up (pc' := 119) (fun _ _ k => x_getRK hK81 lf5_25 rfl dX5_readTest_116 h0.1 h0.2.2.2.2.1 k) ?_
          refine Xi.up (pc' := 122) (fun _ _ k => x_getRK hK81 lf5_86 rfl dX5_readTest_119 h0.2.2.2.2.2.2.2.2.1 h0.2.2.2.2.2.2.2.2.2.2.2.2.2.2.2.2.2.1 k) ?_
          obtain ⟨x83, M82, hc85, hK84, h⟩ := h
          refine Xi.up (pc' := 125) (st' := [zi x83]) (fun _ _ k => x_callVK (ci := 5) (as := [zr 17]) (st := []) hK81 k5_readFormula lm5_61 dX5_readTest_122 rfl (by decide) (zs8 rfl) h0.1 ⟨_, _, rfl⟩ hc85 k) ?_
          obtain ⟨g86, h⟩ := h
          exact Xi.ret ⟨dX5_readTest_125, Or.inr ⟨rfl, g86⟩⟩ h
        · have h := h.2 c
          refine Xi.up (pc' := 76) (fun _ _ k => x_iload_n dX5_readTest_75 rfl rfl k) ?_
          refine Xi.up (pc' := 78) (fun _ _ k => x_bipush dX5_readTest_76 (show inR 61 from ⟨by decide, by decide⟩) (by decide) k) ?_
          refine Xi.br (tgt := 95) (pc' := 81) (x74 = 61) (fun _ _ kt kf => x_icmp_eq dX5_readTest_78 rfl kt kf) (fun c => ?_) (fun c => ?_)
          · have h := h.1 c
            refine Xi.up (pc' := 96) (fun _ _ k => x_aload_n dX5_readTest_95 rfl rfl k) ?_
            refine Xi.up (pc' := 99) (fun _ _ k => x_getRK hK75 lf5_25 rfl dX5_readTest_96 h0.1 h0.2.2.2.2.1 k) ?_
            refine Xi.up (pc' := 100) (fun _ _ k => x_iload_n dX5_readTest_99 rfl rfl k) ?_
            refine Xi.up (pc' := 101) (fun _ _ k => x_iload_n dX5_readTest_100 rfl rfl k) ?_
            obtain ⟨M87, hc89, hK88, h⟩ := h
            refine Xi.up (pc' := 104) (st' := []) (fun _ _ k => x_callVK (ci := 4) (as := [zi x66, zi x74]) (st := []) hK75 k4_setDetail lm5_114 dX5_readTest_101 rfl (by decide) (zs8 rfl) h0.2.2.2.2.2.2.2.2.1 ⟨_, _, rfl⟩ hc89 k) ?_
            refine Xi.up (pc' := 105) (fun _ _ k => x_aload_n dX5_readTest_104 rfl rfl k) ?_
            refine Xi.up (pc' := 106) (fun _ _ k => x_dupR dX5_readTest_105 k) ?_
            refine Xi.up (pc' := 109) (fun _ _ k => x_getIK hK88 lf5_32 rfl dX5_readTest_106 h0.1 k) ?_
            refine Xi.up (pc' := 110) (fun _ _ k => x_iconst dX5_readTest_109 (show inR 1 from ⟨by decide, by decide⟩) k) ?_
            obtain ⟨g90, h⟩ := h
            refine Xi.up (pc' := 111) (fun _ _ k => x_iadd dX5_readTest_110 g90 k) ?_
            refine Xi.up (pc' := 114) (fun _ _ k => x_putIK hK88 lf5_32 rfl rfl (Or.inl rfl) dX5_readTest_111 h0.1 k) ?_
            have hK91 := KW.sI hK88 5 4 ((mI M87 5 4) + 1)
            refine Xi.up (pc' := 115) (fun _ _ k => x_aload_n dX5_readTest_114 rfl rfl k) ?_
            refine Xi.up (pc' := 116) (fun _ _ k => x_aload_n dX5_readTest_115 rfl rfl k) ?_
            refine Xi.up (pc' := 119) (fun _ _ k => x_getRK hK91 lf5_25 rfl dX5_readTest_116 h0.1 h0.2.2.2.2.1 k) ?_
            refine Xi.up (pc' := 122) (fun _ _ k => x_getRK hK91 lf5_86 rfl dX5_readTest_119 h0.2.2.2.2.2.2.2.2.1 h0.2.2.2.2.2.2.2.2.2.2.2.2.2.2.2.2.2.1 k) ?_
            obtain ⟨x93, M92, hc95, hK94, h⟩ := h
            refine Xi.up (pc' := 125) (st' := [zi x93]) (fun _ _ k => x_callVK (ci := 5) (as := [zr 17]) (st := []) hK91 k5_readFormula lm5_61 dX5_readTest_122 rfl (by decide) (zs8 rfl) h0.1 ⟨_, _, rfl⟩ hc95 k) ?_
            obtain ⟨g96, h⟩ := h
            exact Xi.ret ⟨dX5_readTest_125, Or.inr ⟨rfl, g96⟩⟩ h
          · have h := h.2 c
            refine Xi.up (pc' := 82) (fun _ _ k => x_iload_n dX5_readTest_81 rfl rfl k) ?_
            refine Xi.up (pc' := 84) (fun _ _ k => x_bipush dX5_readTest_82 (show inR 62 from ⟨by decide, by decide⟩) (by decide) k) ?_
            refine Xi.br (tgt := 95) (pc' := 87) (x74 = 62) (fun _ _ kt kf => x_icmp_eq dX5_readTest_84 rfl kt kf) (fun c => ?_) (fun c => ?_)
            · have h := h.1 c
              refine Xi.up (pc' := 96) (fun _ _ k => x_aload_n dX5_readTest_95 rfl rfl k) ?_
              refine Xi.up (pc' := 99) (fun _ _ k => x_getRK hK75 lf5_25 rfl dX5_readTest_96 h0.1 h0.2.2.2.2.1 k) ?_
              refine Xi.up (pc' := 100) (fun _ _ k => x_iload_n dX5_readTest_99 rfl rfl k) ?_
              refine Xi.up (pc' := 101) (fun _ _ k => x_iload_n dX5_readTest_100 rfl rfl k) ?_
              obtain ⟨M97, hc99, hK98, h⟩ := h
              refine Xi.up (pc' := 104) (st' := []) (fun _ _ k => x_callVK (ci := 4) (as := [zi x66, zi x74]) (st := []) hK75 k4_setDetail lm5_114 dX5_readTest_101 rfl (by decide) (zs8 rfl) h0.2.2.2.2.2.2.2.2.1 ⟨_, _, rfl⟩ hc99 k) ?_
              refine Xi.up (pc' := 105) (fun _ _ k => x_aload_n dX5_readTest_104 rfl rfl k) ?_
              refine Xi.up (pc' := 106) (fun _ _ k => x_dupR dX5_readTest_105 k) ?_
              refine Xi.up (pc' := 109) (fun _ _ k => x_getIK hK98 lf5_32 rfl dX5_readTest_106 h0.1 k) ?_
              refine Xi.up (pc' := 110) (fun _ _ k => x_iconst dX5_readTest_109 (show inR 1 from ⟨by decide, by decide⟩) k) ?_
              obtain ⟨g100, h⟩ := h
              refine Xi.up (pc' := 111) (fun _ _ k => x_iadd dX5_readTest_110 g100 k) ?_
              refine Xi.up (pc' := 114) (fun _ _ k => x_putIK hK98 lf5_32 rfl rfl (Or.inl rfl) dX5_readTest_111 h0.1 k) ?_
              have hK101 := KW.sI hK98 5 4 ((mI M97 5 4) + 1)
              refine Xi.up (pc' := 115) (fun _ _ k => x_aload_n dX5_readTest_114 rfl rfl k) ?_
              refine Xi.up (pc' := 116) (fun _ _ k => x_aload_n dX5_readTest_115 rfl rfl k) ?_
              refine Xi.up (pc' := 119) (fun _ _ k => x_getRK hK101 lf5_25 rfl dX5_readTest_116 h0.1 h0.2.2.2.2.1 k) ?_
              refine Xi.up (pc' := 122) (fun _ _ k => x_getRK hK101 lf5_86 rfl dX5_readTest_119 h0.2.2.2.2.2.2.2.2.1 h0.2.2.2.2.2.2.2.2.2.2.2.2.2.2.2.2.2.1 k) ?_
              obtain ⟨x103, M102, hc105, hK104, h⟩ := h
              refine Xi.up (pc' := 125) (st' := [zi x103]) (fun _ _ k => x_callVK (ci := 5) (as := [zr 17]) (st := []) hK101 k5_readFormula lm5_61 dX5_readTest_122 rfl (by decide) (zs8 rfl) h0.1 ⟨_, _, rfl⟩ hc105 k) ?_
              obtain ⟨g106, h⟩ := h
              exact Xi.ret ⟨dX5_readTest_125, Or.inr ⟨rfl, g106⟩⟩ h
            · have h := h.2 c
              refine Xi.up (pc' := 88) (fun _ _ k => x_iload_n dX5_readTest_87 rfl rfl k) ?_
              refine Xi.up (pc' := 90) (fun _ _ k => x_bipush dX5_readTest_88 (show inR 35 from ⟨by decide, by decide⟩) (by decide) k) ?_
              refine Xi.br (tgt := 95) (pc' := 93) (x74 = 35) (fun _ _ kt kf => x_icmp_eq dX5_readTest_90 rfl kt kf) (fun c => ?_) (fun c => ?_)
              · have h := h.1 c
                refine Xi.up (pc' := 96) (fun _ _ k => x_aload_n dX5_readTest_95 rfl rfl k) ?_
                refine Xi.up (pc' := 99) (fun _ _ k => x_getRK hK75 lf5_25 rfl dX5_readTest_96 h0.1 h0.2.2.2.2.1 k) ?_
                refine Xi.up (pc' := 100) (fun _ _ k => x_iload_n dX5_readTest_99 rfl rfl k) ?_
                refine Xi.up (pc' := 101) (fun _ _ k => x_iload_n dX5_readTest_100 rfl rfl k) ?_
                obtain ⟨M107, hc109, hK108, h⟩ := h
                refine Xi.up (pc' := 104) (st' := []) (fun _ _ k => x_callVK (ci := 4) (as := [zi x66, zi x74]) (st := []) hK75 k4_setDetail lm5_114 dX5_readTest_101 rfl (by decide) (zs8 rfl) h0.2.2.2.2.2.2.2.2.1 ⟨_, _, rfl⟩ hc109 k) ?_
                refine Xi.up (pc' := 105) (fun _ _ k => x_aload_n dX5_readTest_104 rfl rfl k) ?_
                refine Xi.up (pc' := 106) (fun _ _ k => x_dupR dX5_readTest_105 k) ?_
                refine Xi.up (pc' := 109) (fun _ _ k => x_getIK hK108 lf5_32 rfl dX5_readTest_106 h0.1 k) ?_
                refine Xi.up (pc' := 110) (fun _ _ k => x_iconst dX5_readTest_109 (show inR 1 from ⟨by decide, by decide⟩) k) ?_
                obtain ⟨g110, h⟩ := h
                refine Xi.up (pc' := 111) (fun _ _ k => x_iadd dX5_readTest_110 g110 k) ?_
                refine Xi.up (pc' := 114) (fun _ _ k => x_putIK hK108 lf5_32 rfl rfl (Or.inl rfl) dX5_readTest_111 h0.1 k) ?_
                have hK111 := KW.sI hK108 5 4 ((mI M107 5 4) + 1)
                refine Xi.up (pc' := 115) (fun _ _ k => x_aload_n dX5_readTest_114 rfl rfl k) ?_
                refine Xi.up (pc' := 116) (fun _ _ k => x_aload_n dX5_readTest_115 rfl rfl k) ?_
                refine Xi.up (pc' := 119) (fun _ _ k => x_getRK hK111 lf5_25 rfl dX5_readTest_116 h0.1 h0.2.2.2.2.1 k) ?_
                refine Xi.up (pc' := 122) (fun _ _ k => x_getRK hK111 lf5_86 rfl dX5_readTest_119 h0.2.2.2.2.2.2.2.2.1 h0.2.2.2.2.2.2.2.2.2.2.2.2.2.2.2.2.2.1 k) ?_
                obtain ⟨x113, M112, hc115, hK114, h⟩ := h
                refine Xi.up (pc' := 125) (st' := [zi x113]) (fun _ _ k => x_callVK (ci := 5) (as := [zr 17]) (st := []) hK111 k5_readFormula lm5_61 dX5_readTest_122 rfl (by decide) (zs8 rfl) h0.1 ⟨_, _, rfl⟩ hc115 k) ?_
                obtain ⟨g116, h⟩ := h
                exact Xi.ret ⟨dX5_readTest_125, Or.inr ⟨rfl, g116⟩⟩ h
              · have h := h.2 c
                refine Xi.up (pc' := 94) (fun _ _ k => x_iconst dX5_readTest_93 (show inR 0 from ⟨by decide, by decide⟩) k) ?_
                exact Xi.ret ⟨dX5_readTest_94, Or.inr ⟨rfl, Or.inl rfl⟩⟩ h
      · have h := h.2 c
        refine Xi.up (pc' := 56) (fun _ _ k => x_iconst dX5_readTest_55 (show inR 0 from ⟨by decide, by decide⟩) k) ?_
        exact Xi.ret ⟨dX5_readTest_56, Or.inr ⟨rfl, Or.inl rfl⟩⟩ h
    · have h := h.2 c
      refine Xi.up (pc' := 27) (fun _ _ k => x_iload_n dX5_readTest_26 rfl rfl k) ?_
      refine Xi.up (pc' := 29) (fun _ _ k => x_bipush dX5_readTest_27 (show inR 45 from ⟨by decide, by decide⟩) (by decide) k) ?_
      refine Xi.br (tgt := 34) (pc' := 32) (x2 = 45) (fun _ _ kt kf => x_icmp_eq dX5_readTest_29 rfl kt kf) (fun c => ?_) (fun c => ?_)
      · have h := h.1 c
        refine Xi.up (pc' := 35) (fun _ _ k => x_aload_n dX5_readTest_34 rfl rfl k) ?_
        refine Xi.up (pc' := 36) (fun _ _ k => x_iconst dX5_readTest_35 (show inR 2 from ⟨by decide, by decide⟩) k) ?_
        refine Xi.up (pc' := 37) (fun _ _ k => x_iconst dX5_readTest_36 (show inR 0 from ⟨by decide, by decide⟩) k) ?_
        obtain ⟨x118, M117, hc120, hK119, h⟩ := h
        refine Xi.up (pc' := 40) (st' := [zi x118]) (fun _ _ k => x_callVK (ci := 5) (as := [zi 2, zi 0]) (st := []) hK63 k5_addStatement lm5_75 dX5_readTest_37 rfl (by decide) (zs8 rfl) h0.1 ⟨_, _, rfl⟩ hc120 k) ?_
        refine Xi.up (pc' := 41) (L' := [some (zr 5), some (zi x2), some (zi x118), none]) (fun _ _ k => x_istore_n dX5_readTest_40 rfl (by decide) rfl k) ?_
        refine Xi.up (pc' := 42) (fun _ _ k => x_aload_n dX5_readTest_41 rfl rfl k) ?_
        refine Xi.up (pc' := 43) (fun _ _ k => x_aload_n dX5_readTest_42 rfl rfl k) ?_
        refine Xi.up (pc' := 46) (fun _ _ k => x_getRK hK119 lf5_25 rfl dX5_readTest_43 h0.1 h0.2.2.2.2.1 k) ?_
        refine Xi.up (pc' := 49) (fun _ _ k => x_getRK hK119 lf5_86 rfl dX5_readTest_46 h0.2.2.2.2.2.2.2.2.1 h0.2.2.2.2.2.2.2.2.2.2.2.2.2.2.2.2.2.1 k) ?_
        obtain ⟨x122, M121, hc124, hK123, h⟩ := h
        refine Xi.up (pc' := 52) (st' := [zi x122]) (fun _ _ k => x_callVK (ci := 5) (as := [zr 17]) (st := []) hK119 k5_readFormula lm5_61 dX5_readTest_49 rfl (by decide) (zs8 rfl) h0.1 ⟨_, _, rfl⟩ hc124 k) ?_
        refine Xi.br (tgt := 57) (pc' := 55) (x122 ≠ 0) (fun _ _ kt kf => x_if_ne dX5_readTest_52 rfl kt kf) (fun c => ?_) (fun c => ?_)
        · have h := h.1 c
          refine Xi.up (pc' := 58) (fun _ _ k => x_aload_n dX5_readTest_57 rfl rfl k) ?_
          refine Xi.up (pc' := 61) (fun _ _ k => x_getRK hK123 lf5_9 rfl dX5_readTest_58 h0.1 h0.2.1 k) ?_
          refine Xi.up (pc' := 62) (fun _ _ k => x_aload_n dX5_readTest_61 rfl rfl k) ?_
          refine Xi.up (pc' := 65) (fun _ _ k => x_getIK hK123 lf5_32 rfl dX5_readTest_62 h0.1 k) ?_
          obtain ⟨x126, M125, hc128, hK127, h⟩ := h
          refine Xi.up (pc' := 68) (st' := [zi x126]) (fun _ _ k => x_callVK (ci := 7) (as := [zi (mI M121 5 4)]) (st := []) hK123 k7_at lm5_71 dX5_readTest_65 rfl (by decide) (zs8 rfl) h0.2.2.2.2.2.2.2.1.1 ⟨_, _, rfl⟩ hc128 k) ?_
          refine Xi.up (pc' := 69) (L' := [some (zr 5), some (zi x2), some (zi x118), some (zi x126)]) (fun _ _ k => x_istore_n dX5_readTest_68 rfl (by decide) rfl k) ?_
          refine Xi.up (pc' := 70) (fun _ _ k => x_iload_n dX5_readTest_69 rfl rfl k) ?_
          refine Xi.up (pc' := 72) (fun _ _ k => x_bipush dX5_readTest_70 (show inR 60 from ⟨by decide, by decide⟩) (by decide) k) ?_
          refine Xi.br (tgt := 95) (pc' := 75) (x126 = 60) (fun _ _ kt kf => x_icmp_eq dX5_readTest_72 rfl kt kf) (fun c => ?_) (fun c => ?_)
          · have h := h.1 c
            refine Xi.up (pc' := 96) (fun _ _ k => x_aload_n dX5_readTest_95 rfl rfl k) ?_
            refine Xi.up (pc' := 99) (fun _ _ k => x_getRK hK127 lf5_25 rfl dX5_readTest_96 h0.1 h0.2.2.2.2.1 k) ?_
            refine Xi.up (pc' := 100) (fun _ _ k => x_iload_n dX5_readTest_99 rfl rfl k) ?_
            refine Xi.up (pc' := 101) (fun _ _ k => x_iload_n dX5_readTest_100 rfl rfl k) ?_
            obtain ⟨M129, hc131, hK130, h⟩ := h
            refine Xi.up (pc' := 104) (st' := []) (fun _ _ k => x_callVK (ci := 4) (as := [zi x118, zi x126]) (st := []) hK127 k4_setDetail lm5_114 dX5_readTest_101 rfl (by decide) (zs8 rfl) h0.2.2.2.2.2.2.2.2.1 ⟨_, _, rfl⟩ hc131 k) ?_
            refine Xi.up (pc' := 105) (fun _ _ k => x_aload_n dX5_readTest_104 rfl rfl k) ?_
            refine Xi.up (pc' := 106) (fun _ _ k => x_dupR dX5_readTest_105 k) ?_
            refine Xi.up (pc' := 109) (fun _ _ k => x_getIK hK130 lf5_32 rfl dX5_readTest_106 h0.1 k) ?_
            refine Xi.up (pc' := 110) (fun _ _ k => x_iconst dX5_readTest_109 (show inR 1 from ⟨by decide, by decide⟩) k) ?_
            obtain ⟨g132, h⟩ := h
            refine Xi.up (pc' := 111) (fun _ _ k => x_iadd dX5_readTest_110 g132 k) ?_
            refine Xi.up (pc' := 114) (fun _ _ k => x_putIK hK130 lf5_32 rfl rfl (Or.inl rfl) dX5_readTest_111 h0.1 k) ?_
            have hK133 := KW.sI hK130 5 4 ((mI M129 5 4) + 1)
            refine Xi.up (pc' := 115) (fun _ _ k => x_aload_n dX5_readTest_114 rfl rfl k) ?_
            refine Xi.up (pc' := 116) (fun _ _ k => x_aload_n dX5_readTest_115 rfl rfl k) ?_
            refine Xi.up (pc' := 119) (fun _ _ k => x_getRK hK133 lf5_25 rfl dX5_readTest_116 h0.1 h0.2.2.2.2.1 k) ?_
            refine Xi.up (pc' := 122) (fun _ _ k => x_getRK hK133 lf5_86 rfl dX5_readTest_119 h0.2.2.2.2.2.2.2.2.1 h0.2.2.2.2.2.2.2.2.2.2.2.2.2.2.2.2.2.1 k) ?_
            obtain ⟨x135, M134, hc137, hK136, h⟩ := h
            refine Xi.up (pc' := 125) (st' := [zi x135]) (fun _ _ k => x_callVK (ci := 5) (as := [zr 17]) (st := []) hK133 k5_readFormula lm5_61 dX5_readTest_122 rfl (by decide) (zs8 rfl) h0.1 ⟨_, _, rfl⟩ hc137 k) ?_
            obtain ⟨g138, h⟩ := h
            exact Xi.ret ⟨dX5_readTest_125, Or.inr ⟨rfl, g138⟩⟩ h
          · have h := h.2 c
            refine Xi.up (pc' := 76) (fun _ _ k => x_iload_n dX5_readTest_75 rfl rfl k) ?_
            refine Xi.up (pc' := 78) (fun _ _ k => x_bipush dX5_readTest_76 (show inR 61 from ⟨by decide, by decide⟩) (by decide) k) ?_
            refine Xi.br (tgt := 95) (pc' := 81) (x126 = 61) (fun _ _ kt kf => x_icmp_eq dX5_readTest_78 rfl kt kf) (fun c => ?_) (fun c => ?_)
            · have h := h.1 c
              refine Xi.up (pc' := 96) (fun _ _ k => x_aload_n dX5_readTest_95 rfl rfl k) ?_
              refine Xi.up (pc' := 99) (fun _ _ k => x_getRK hK127 lf5_25 rfl dX5_readTest_96 h0.1 h0.2.2.2.2.1 k) ?_
              refine Xi.up (pc' := 100) (fun _ _ k => x_iload_n dX5_readTest_99 rfl rfl k) ?_
              refine Xi.up (pc' := 101) (fun _ _ k => x_iload_n dX5_readTest_100 rfl rfl k) ?_
              obtain ⟨M139, hc141, hK140, h⟩ := h
              refine Xi.up (pc' := 104) (st' := []) (fun _ _ k => x_callVK (ci := 4) (as := [zi x118, zi x126]) (st := []) hK127 k4_setDetail lm5_114 dX5_readTest_101 rfl (by decide) (zs8 rfl) h0.2.2.2.2.2.2.2.2.1 ⟨_, _, rfl⟩ hc141 k) ?_
              refine Xi.up (pc' := 105) (fun _ _ k => x_aload_n dX5_readTest_104 rfl rfl k) ?_
              refine Xi.up (pc' := 106) (fun _ _ k => x_dupR dX5_readTest_105 k) ?_
              refine Xi.up (pc' := 109) (fun _ _ k => x_getIK hK140 lf5_32 rfl dX5_readTest_106 h0.1 k) ?_
              refine Xi.up (pc' := 110) (fun _ _ k => x_iconst dX5_readTest_109 (show inR 1 from ⟨by decide, by decide⟩) k) ?_
              obtain ⟨g142, h⟩ := h
              refine Xi.up (pc' := 111) (fun _ _ k => x_iadd dX5_readTest_110 g142 k) ?_
              refine Xi.up (pc' := 114) (fun _ _ k => x_putIK hK140 lf5_32 rfl rfl (Or.inl rfl) dX5_readTest_111 h0.1 k) ?_
              have hK143 := KW.sI hK140 5 4 ((mI M139 5 4) + 1)
              refine Xi.up (pc' := 115) (fun _ _ k => x_aload_n dX5_readTest_114 rfl rfl k) ?_
              refine Xi.up (pc' := 116) (fun _ _ k => x_aload_n dX5_readTest_115 rfl rfl k) ?_
              refine Xi.up (pc' := 119) (fun _ _ k => x_getRK hK143 lf5_25 rfl dX5_readTest_116 h0.1 h0.2.2.2.2.1 k) ?_
              refine Xi.up (pc' := 122) (fun _ _ k => x_getRK hK143 lf5_86 rfl dX5_readTest_119 h0.2.2.2.2.2.2.2.2.1 h0.2.2.2.2.2.2.2.2.2.2.2.2.2.2.2.2.2.1 k) ?_
              obtain ⟨x145, M144, hc147, hK146, h⟩ := h
              refine Xi.up (pc' := 125) (st' := [zi x145]) (fun _ _ k => x_callVK (ci := 5) (as := [zr 17]) (st := []) hK143 k5_readFormula lm5_61 dX5_readTest_122 rfl (by decide) (zs8 rfl) h0.1 ⟨_, _, rfl⟩ hc147 k) ?_
              obtain ⟨g148, h⟩ := h
              exact Xi.ret ⟨dX5_readTest_125, Or.inr ⟨rfl, g148⟩⟩ h
            · have h := h.2 c
              refine Xi.up (pc' := 82) (fun _ _ k => x_iload_n dX5_readTest_81 rfl rfl k) ?_
              refine Xi.up (pc' := 84) (fun _ _ k => x_bipush dX5_readTest_82 (show inR 62 from ⟨by decide, by decide⟩) (by decide) k) ?_
              refine Xi.br (tgt := 95) (pc' := 87) (x126 = 62) (fun _ _ kt kf => x_icmp_eq dX5_readTest_84 rfl kt kf) (fun c => ?_) (fun c => ?_)
              · have h := h.1 c
                refine Xi.up (pc' := 96) (fun _ _ k => x_aload_n dX5_readTest_95 rfl rfl k) ?_
                refine Xi.up (pc' := 99) (fun _ _ k => x_getRK hK127 lf5_25 rfl dX5_readTest_96 h0.1 h0.2.2.2.2.1 k) ?_
                refine Xi.up (pc' := 100) (fun _ _ k => x_iload_n dX5_readTest_99 rfl rfl k) ?_
                refine Xi.up (pc' := 101) (fun _ _ k => x_iload_n dX5_readTest_100 rfl rfl k) ?_
                obtain ⟨M149, hc151, hK150, h⟩ := h
                refine Xi.up (pc' := 104) (st' := []) (fun _ _ k => x_callVK (ci := 4) (as := [zi x118, zi x126]) (st := []) hK127 k4_setDetail lm5_114 dX5_readTest_101 rfl (by decide) (zs8 rfl) h0.2.2.2.2.2.2.2.2.1 ⟨_, _, rfl⟩ hc151 k) ?_
                refine Xi.up (pc' := 105) (fun _ _ k => x_aload_n dX5_readTest_104 rfl rfl k) ?_
                refine Xi.up (pc' := 106) (fun _ _ k => x_dupR dX5_readTest_105 k) ?_
                refine Xi.up (pc' := 109) (fun _ _ k => x_getIK hK150 lf5_32 rfl dX5_readTest_106 h0.1 k) ?_
                refine Xi.up (pc' := 110) (fun _ _ k => x_iconst dX5_readTest_109 (show inR 1 from ⟨by decide, by decide⟩) k) ?_
                obtain ⟨g152, h⟩ := h
                refine Xi.up (pc' := 111) (fun _ _ k => x_iadd dX5_readTest_110 g152 k) ?_
                refine Xi.up (pc' := 114) (fun _ _ k => x_putIK hK150 lf5_32 rfl rfl (Or.inl rfl) dX5_readTest_111 h0.1 k) ?_
                have hK153 := KW.sI hK150 5 4 ((mI M149 5 4) + 1)
                refine Xi.up (pc' := 115) (fun _ _ k => x_aload_n dX5_readTest_114 rfl rfl k) ?_
                refine Xi.up (pc' := 116) (fun _ _ k => x_aload_n dX5_readTest_115 rfl rfl k) ?_
                refine Xi.up (pc' := 119) (fun _ _ k => x_getRK hK153 lf5_25 rfl dX5_readTest_116 h0.1 h0.2.2.2.2.1 k) ?_
                refine Xi.up (pc' := 122) (fun _ _ k => x_getRK hK153 lf5_86 rfl dX5_readTest_119 h0.2.2.2.2.2.2.2.2.1 h0.2.2.2.2.2.2.2.2.2.2.2.2.2.2.2.2.2.1 k) ?_
                obtain ⟨x155, M154, hc157, hK156, h⟩ := h
                refine Xi.up (pc' := 125) (st' := [zi x155]) (fun _ _ k => x_callVK (ci := 5) (as := [zr 17]) (st := []) hK153 k5_readFormula lm5_61 dX5_readTest_122 rfl (by decide) (zs8 rfl) h0.1 ⟨_, _, rfl⟩ hc157 k) ?_
                obtain ⟨g158, h⟩ := h
                exact Xi.ret ⟨dX5_readTest_125, Or.inr ⟨rfl, g158⟩⟩ h
              · have h := h.2 c
                refine Xi.up (pc' := 88) (fun _ _ k => x_iload_n dX5_readTest_87 rfl rfl k) ?_
                refine Xi.up (pc' := 90) (fun _ _ k => x_bipush dX5_readTest_88 (show inR 35 from ⟨by decide, by decide⟩) (by decide) k) ?_
                refine Xi.br (tgt := 95) (pc' := 93) (x126 = 35) (fun _ _ kt kf => x_icmp_eq dX5_readTest_90 rfl kt kf) (fun c => ?_) (fun c => ?_)
                · have h := h.1 c
                  refine Xi.up (pc' := 96) (fun _ _ k => x_aload_n dX5_readTest_95 rfl rfl k) ?_
                  refine Xi.up (pc' := 99) (fun _ _ k => x_getRK hK127 lf5_25 rfl dX5_readTest_96 h0.1 h0.2.2.2.2.1 k) ?_
                  refine Xi.up (pc' := 100) (fun _ _ k => x_iload_n dX5_readTest_99 rfl rfl k) ?_
                  refine Xi.up (pc' := 101) (fun _ _ k => x_iload_n dX5_readTest_100 rfl rfl k) ?_
                  obtain ⟨M159, hc161, hK160, h⟩ := h
                  refine Xi.up (pc' := 104) (st' := []) (fun _ _ k => x_callVK (ci := 4) (as := [zi x118, zi x126]) (st := []) hK127 k4_setDetail lm5_114 dX5_readTest_101 rfl (by decide) (zs8 rfl) h0.2.2.2.2.2.2.2.2.1 ⟨_, _, rfl⟩ hc161 k) ?_
                  refine Xi.up (pc' := 105) (fun _ _ k => x_aload_n dX5_readTest_104 rfl rfl k) ?_
                  refine Xi.up (pc' := 106) (fun _ _ k => x_dupR dX5_readTest_105 k) ?_
                  refine Xi.up (pc' := 109) (fun _ _ k => x_getIK hK160 lf5_32 rfl dX5_readTest_106 h0.1 k) ?_
                  refine Xi.up (pc' := 110) (fun _ _ k => x_iconst dX5_readTest_109 (show inR 1 from ⟨by decide, by decide⟩) k) ?_
                  obtain ⟨g162, h⟩ := h
                  refine Xi.up (pc' := 111) (fun _ _ k => x_iadd dX5_readTest_110 g162 k) ?_
                  refine Xi.up (pc' := 114) (fun _ _ k => x_putIK hK160 lf5_32 rfl rfl (Or.inl rfl) dX5_readTest_111 h0.1 k) ?_
                  have hK163 := KW.sI hK160 5 4 ((mI M159 5 4) + 1)
                  refine Xi.up (pc' := 115) (fun _ _ k => x_aload_n dX5_readTest_114 rfl rfl k) ?_
                  refine Xi.up (pc' := 116) (fun _ _ k => x_aload_n dX5_readTest_115 rfl rfl k) ?_
                  refine Xi.up (pc' := 119) (fun _ _ k => x_getRK hK163 lf5_25 rfl dX5_readTest_116 h0.1 h0.2.2.2.2.1 k) ?_
                  refine Xi.up (pc' := 122) (fun _ _ k => x_getRK hK163 lf5_86 rfl dX5_readTest_119 h0.2.2.2.2.2.2.2.2.1 h0.2.2.2.2.2.2.2.2.2.2.2.2.2.2.2.2.2.1 k) ?_
                  obtain ⟨x165, M164, hc167, hK166, h⟩ := h
                  refine Xi.up (pc' := 125) (st' := [zi x165]) (fun _ _ k => x_callVK (ci := 5) (as := [zr 17]) (st := []) hK163 k5_readFormula lm5_61 dX5_readTest_122 rfl (by decide) (zs8 rfl) h0.1 ⟨_, _, rfl⟩ hc167 k) ?_
                  obtain ⟨g168, h⟩ := h
                  exact Xi.ret ⟨dX5_readTest_125, Or.inr ⟨rfl, g168⟩⟩ h
                · have h := h.2 c
                  refine Xi.up (pc' := 94) (fun _ _ k => x_iconst dX5_readTest_93 (show inR 0 from ⟨by decide, by decide⟩) k) ?_
                  exact Xi.ret ⟨dX5_readTest_94, Or.inr ⟨rfl, Or.inl rfl⟩⟩ h
        · have h := h.2 c
          refine Xi.up (pc' := 56) (fun _ _ k => x_iconst dX5_readTest_55 (show inR 0 from ⟨by decide, by decide⟩) k) ?_
          exact Xi.ret ⟨dX5_readTest_56, Or.inr ⟨rfl, Or.inl rfl⟩⟩ h
      · have h := h.2 c
        refine Xi.up (pc' := 33) (fun _ _ k => x_iconst dX5_readTest_32 (show inR 0 from ⟨by decide, by decide⟩) k) ?_
        exact Xi.ret ⟨dX5_readTest_33, Or.inr ⟨rfl, Or.inl rfl⟩⟩ h
set_option maxHeartbeats 4000000 in
set_option maxRecDepth 20000 in
theorem B5_readSign {d : Nat} {K M : ZMem} {Q : Int → ZMem → Prop} (a1 : Int) (hK : KW K M) (h0 : ReaderAt K 5) (h : Ci d q7_at [zr 3, zi (mI M 5 4)] M (fun x2 M1 => KW K M1 ∧ ((x2 = a1 → ((inR ((mI M1 5 4) + 1)) ∧ Q 1 (sI M1 5 4 ((mI M1 5 4) + 1)))) ∧ (¬ (x2 = a1) → (Q 0 M1))))) : Ci (d + 1) q5_readSign [zr 5, zi a1] M Q := by
  refine Ci.of rfl rfl (Nat.le_of_ble_eq_true rfl) (fun w hw x e => by subst e; simp at hw) (L := [some (zr 5), some (zi a1)]) rfl ?_
  refine Xi.up (pc' := 1) (fun _ _ k => x_aload_n dX5_readSign_0 rfl rfl k) ?_
  refine Xi.up (pc' := 4) (fun _ _ k => x_getRK hK lf5_9 rfl dX5_readSign_1 h0.1 h0.2.1 k) ?_
  refine Xi.up (pc' := 5) (fun _ _ k => x_aload_n dX5_readSign_4 rfl rfl k) ?_
  refine Xi.up (pc' := 8) (fun _ _ k => x_getIK hK lf5_32 rfl dX5_readSign_5 h0.1 k) ?_
  obtain ⟨x2, M1, hc4, hK3, h⟩ := h
  refine Xi.up (pc' := 11) (st' := [zi x2]) (fun _ _ k => x_callVK (ci := 7) (as := [zi (mI M 5 4)]) (st := []) hK k7_at lm5_71 dX5_readSign_8 rfl (by decide) (zs8 rfl) h0.2.2.2.2.2.2.2.1.1 ⟨_, _, rfl⟩ hc4 k) ?_
  refine Xi.up (pc' := 12) (fun _ _ k => x_iload_n dX5_readSign_11 rfl rfl k) ?_
  refine Xi.br (tgt := 17) (pc' := 15) (x2 = a1) (fun _ _ kt kf => x_icmp_eq dX5_readSign_12 rfl kt kf) (fun c => ?_) (fun c => ?_)
  · have h := h.1 c
    refine Xi.up (pc' := 18) (fun _ _ k => x_aload_n dX5_readSign_17 rfl rfl k) ?_
    refine Xi.up (pc' := 19) (fun _ _ k => x_dupR dX5_readSign_18 k) ?_
    refine Xi.up (pc' := 22) (fun _ _ k => x_getIK hK3 lf5_32 rfl dX5_readSign_19 h0.1 k) ?_
    refine Xi.up (pc' := 23) (fun _ _ k => x_iconst dX5_readSign_22 (show inR 1 from ⟨by decide, by decide⟩) k) ?_
    obtain ⟨g5, h⟩ := h
    refine Xi.up (pc' := 24) (fun _ _ k => x_iadd dX5_readSign_23 g5 k) ?_
    refine Xi.up (pc' := 27) (fun _ _ k => x_putIK hK3 lf5_32 rfl rfl (Or.inl rfl) dX5_readSign_24 h0.1 k) ?_
    have hK6 := KW.sI hK3 5 4 ((mI M1 5 4) + 1)
    refine Xi.up (pc' := 28) (fun _ _ k => x_iconst dX5_readSign_27 (show inR 1 from ⟨by decide, by decide⟩) k) ?_
    exact Xi.ret ⟨dX5_readSign_28, Or.inr ⟨rfl, Or.inr rfl⟩⟩ h
  · have h := h.2 c
    refine Xi.up (pc' := 16) (fun _ _ k => x_iconst dX5_readSign_15 (show inR 0 from ⟨by decide, by decide⟩) k) ?_
    exact Xi.ret ⟨dX5_readSign_16, Or.inr ⟨rfl, Or.inl rfl⟩⟩ h
set_option maxHeartbeats 4000000 in
set_option maxRecDepth 20000 in
theorem B5_readFormula {d : Nat} {K M : ZMem} {Q : Int → ZMem → Prop} (a1 : Nat) (hK : KW K M) (h0 : ReaderAt K 5) (h1 : FormulasAt K a1) (h : Cv d q1_startFormula [zr a1] M (fun M1 => KW K M1 ∧ Xi (d + 1) q5_readFormula 8 [some (zr 5), some (zr a1), some (zi 0), some (zi 0)] [] M1 Q)) : Ci (d + 1) q5_readFormula [zr 5, zr a1] M Q := by
  refine Ci.of rfl rfl (Nat.le_of_ble_eq_true rfl) (fun w hw x e => by subst e; simp at hw) (L := [some (zr 5), some (zr a1), none, none]) rfl ?_
  refine Xi.up (pc' := 1) (fun _ _ k => x_aload_n dX5_readFormula_0 rfl rfl k) ?_
  obtain ⟨M1, hc3, hK2, h⟩ := h
  refine Xi.up (pc' := 4) (st' := []) (fun _ _ k => x_callVK (ci := 1) (as := []) (st := []) hK k1_startFormula lm5_117 dX5_readFormula_1 rfl (by decide) (zs8 rfl) h1.1 ⟨_, _, rfl⟩ hc3 k) ?_
  refine Xi.up (pc' := 5) (fun _ _ k => x_iconst dX5_readFormula_4 (show inR 0 from ⟨by decide, by decide⟩) k) ?_
  refine Xi.up (pc' := 6) (L' := [some (zr 5), some (zr a1), some (zi 0), none]) (fun _ _ k => x_istore_n dX5_readFormula_5 rfl (by decide) rfl k) ?_
  refine Xi.up (pc' := 7) (fun _ _ k => x_iconst dX5_readFormula_6 (show inR 0 from ⟨by decide, by decide⟩) k) ?_
  refine Xi.up (pc' := 8) (L' := [some (zr 5), some (zr a1), some (zi 0), some (zi 0)]) (fun _ _ k => x_istore_n dX5_readFormula_7 rfl (by decide) rfl k) ?_
  exact h
set_option maxHeartbeats 4000000 in
set_option maxRecDepth 20000 in
theorem B5_readFormula_8 {d : Nat} {K M : ZMem} {Q : Int → ZMem → Prop} (a1 : Nat) (l2 : Int) (l3 : Int) (hK : KW K M) (h0 : ReaderAt K 5) (h1 : FormulasAt K a1) (h : ((150 < l3 → (Q 0 M)) ∧ (¬ (150 < l3) → (Ci d q5_readFactor [zr 5, zr a1, zi l2] M (fun x2 M1 => KW K M1 ∧ ((x2 ≠ 0 → (Ci d q7_at [zr 3, zi (mI M1 5 4)] M1 (fun x6 M5 => KW K M5 ∧ Ci d q5_joinOf [zi x6] M5 (fun x10 M9 => KW K M9 ∧ ((x10 ≠ 0 → ((inR ((mI M9 5 4) + 1)) ∧ (inR (l3 + 1)) ∧ Xi (d + 1) q5_readFormula 8 [some (zr 5), some (zr a1), some (zi x10), some (zi (l3 + 1))] [] (sI M9 5 4 ((mI M9 5 4) + 1)) Q)) ∧ (¬ (x10 ≠ 0) → (Q 1 M9))))))) ∧ (¬ (x2 ≠ 0) → (Q 0 M1)))))))) : Xi (d + 1) q5_readFormula 8 [some (zr 5), some (zr a1), some (zi l2), some (zi l3)] [] M Q := by
  refine Xi.up (pc' := 9) (fun _ _ k => x_iload_n dX5_readFormula_8 rfl rfl k) ?_
  refine Xi.up (pc' := 12) (fun _ _ k => x_sipush dX5_readFormula_9 (show inR 150 from ⟨by decide, by decide⟩) (by decide) k) ?_
  refine Xi.br (tgt := 63) (pc' := 15) (150 < l3) (fun _ _ kt kf => x_icmp_gt dX5_readFormula_12 rfl kt kf) (fun c => ?_) (fun c => ?_)
  · have h := h.1 c
    refine Xi.up (pc' := 64) (fun _ _ k => x_iconst dX5_readFormula_63 (show inR 0 from ⟨by decide, by decide⟩) k) ?_
    exact Xi.ret ⟨dX5_readFormula_64, Or.inr ⟨rfl, Or.inl rfl⟩⟩ h
  · have h := h.2 c
    refine Xi.up (pc' := 16) (fun _ _ k => x_aload_n dX5_readFormula_15 rfl rfl k) ?_
    refine Xi.up (pc' := 17) (fun _ _ k => x_aload_n dX5_readFormula_16 rfl rfl k) ?_
    refine Xi.up (pc' := 18) (fun _ _ k => x_iload_n dX5_readFormula_17 rfl rfl k) ?_
    obtain ⟨x2, M1, hc4, hK3, h⟩ := h
    refine Xi.up (pc' := 21) (st' := [zi x2]) (fun _ _ k => x_callVK (ci := 5) (as := [zr a1, zi l2]) (st := []) hK k5_readFactor lm5_122 dX5_readFormula_18 rfl (by decide) (zs8 rfl) h0.1 ⟨_, _, rfl⟩ hc4 k) ?_
    refine Xi.br (tgt := 26) (pc' := 24) (x2 ≠ 0) (fun _ _ kt kf => x_if_ne dX5_readFormula_21 rfl kt kf) (fun c => ?_) (fun c => ?_)
    · have h := h.1 c
      refine Xi.up (pc' := 27) (fun _ _ k => x_aload_n dX5_readFormula_26 rfl rfl k) ?_
      refine Xi.up (pc' := 30) (fun _ _ k => x_getRK hK3 lf5_9 rfl dX5_readFormula_27 h0.1 h0.2.1 k) ?_
      refine Xi.up (pc' := 31) (fun _ _ k => x_aload_n dX5_readFormula_30 rfl rfl k) ?_
      refine Xi.up (pc' := 34) (fun _ _ k => x_getIK hK3 lf5_32 rfl dX5_readFormula_31 h0.1 k) ?_
      obtain ⟨x6, M5, hc8, hK7, h⟩ := h
      refine Xi.up (pc' := 37) (st' := [zi x6]) (fun _ _ k => x_callVK (ci := 7) (as := [zi (mI M1 5 4)]) (st := []) hK3 k7_at lm5_71 dX5_readFormula_34 rfl (by decide) (zs8 rfl) h0.2.2.2.2.2.2.2.1.1 ⟨_, _, rfl⟩ hc8 k) ?_
      obtain ⟨x10, M9, hc12, hK11, h⟩ := h
      refine Xi.up (pc' := 40) (st' := [zi x10]) (fun _ _ k => x_callS (as := [zi x6]) (st := []) k5_joinOf lm5_126 dX5_readFormula_37 rfl (by decide) (zs8 rfl) hc12 k) ?_
      refine Xi.up (pc' := 41) (L' := [some (zr 5), some (zr a1), some (zi x10), some (zi l3)]) (fun _ _ k => x_istore_n dX5_readFormula_40 rfl (by decide) rfl k) ?_
      refine Xi.up (pc' := 42) (fun _ _ k => x_iload_n dX5_readFormula_41 rfl rfl k) ?_
      refine Xi.br (tgt := 47) (pc' := 45) (x10 ≠ 0) (fun _ _ kt kf => x_if_ne dX5_readFormula_42 rfl kt kf) (fun c => ?_) (fun c => ?_)
      · have h := h.1 c
        refine Xi.up (pc' := 48) (fun _ _ k => x_aload_n dX5_readFormula_47 rfl rfl k) ?_
        refine Xi.up (pc' := 49) (fun _ _ k => x_dupR dX5_readFormula_48 k) ?_
        refine Xi.up (pc' := 52) (fun _ _ k => x_getIK hK11 lf5_32 rfl dX5_readFormula_49 h0.1 k) ?_
        refine Xi.up (pc' := 53) (fun _ _ k => x_iconst dX5_readFormula_52 (show inR 1 from ⟨by decide, by decide⟩) k) ?_
        obtain ⟨g13, h⟩ := h
        refine Xi.up (pc' := 54) (fun _ _ k => x_iadd dX5_readFormula_53 g13 k) ?_
        refine Xi.up (pc' := 57) (fun _ _ k => x_putIK hK11 lf5_32 rfl rfl (Or.inl rfl) dX5_readFormula_54 h0.1 k) ?_
        have hK14 := KW.sI hK11 5 4 ((mI M9 5 4) + 1)
        obtain ⟨g15, h⟩ := h
        refine Xi.up (pc' := 60) (L' := [some (zr 5), some (zr a1), some (zi x10), some (zi (l3 + 1))]) (fun _ _ k => x_iinc dX5_readFormula_57 rfl g15 (by decide) rfl k) ?_
        refine Xi.up (pc' := 8) (fun _ _ k => x_goto dX5_readFormula_60 rfl k) ?_
        exact h
      · have h := h.2 c
        refine Xi.up (pc' := 46) (fun _ _ k => x_iconst dX5_readFormula_45 (show inR 1 from ⟨by decide, by decide⟩) k) ?_
        exact Xi.ret ⟨dX5_readFormula_46, Or.inr ⟨rfl, Or.inr rfl⟩⟩ h
    · have h := h.2 c
      refine Xi.up (pc' := 25) (fun _ _ k => x_iconst dX5_readFormula_24 (show inR 0 from ⟨by decide, by decide⟩) k) ?_
      exact Xi.ret ⟨dX5_readFormula_25, Or.inr ⟨rfl, Or.inl rfl⟩⟩ h
set_option maxHeartbeats 4000000 in
set_option maxRecDepth 20000 in
theorem B5_joinOf {d : Nat} {K M : ZMem} {Q : Int → ZMem → Prop} (a1 : Int) (hK : KW K M)  (h : ((a1 ≠ 43 → ((a1 ≠ 45 → ((a1 ≠ 42 → (Q 0 M)) ∧ (¬ (a1 ≠ 42) → (Q 3 M)))) ∧ (¬ (a1 ≠ 45) → (Q 2 M)))) ∧ (¬ (a1 ≠ 43) → (Q 1 M)))) : Ci d q5_joinOf [zi a1] M Q := by
  refine Ci.of rfl rfl (Nat.le_of_ble_eq_true rfl) (fun w hw x e => by subst e; simp at hw) (L := [some (zi a1)]) rfl ?_
  refine Xi.up (pc' := 1) (fun _ _ k => x_iload_n dX5_joinOf_0 rfl rfl k) ?_
  refine Xi.up (pc' := 3) (fun _ _ k => x_bipush dX5_joinOf_1 (show inR 43 from ⟨by decide, by decide⟩) (by decide) k) ?_
  refine Xi.br (tgt := 8) (pc' := 6) (a1 ≠ 43) (fun _ _ kt kf => x_icmp_ne dX5_joinOf_3 rfl kt kf) (fun c => ?_) (fun c => ?_)
  · have h := h.1 c
    refine Xi.up (pc' := 9) (fun _ _ k => x_iload_n dX5_joinOf_8 rfl rfl k) ?_
    refine Xi.up (pc' := 11) (fun _ _ k => x_bipush dX5_joinOf_9 (show inR 45 from ⟨by decide, by decide⟩) (by decide) k) ?_
    refine Xi.br (tgt := 16) (pc' := 14) (a1 ≠ 45) (fun _ _ kt kf => x_icmp_ne dX5_joinOf_11 rfl kt kf) (fun c => ?_) (fun c => ?_)
    · have h := h.1 c
      refine Xi.up (pc' := 17) (fun _ _ k => x_iload_n dX5_joinOf_16 rfl rfl k) ?_
      refine Xi.up (pc' := 19) (fun _ _ k => x_bipush dX5_joinOf_17 (show inR 42 from ⟨by decide, by decide⟩) (by decide) k) ?_
      refine Xi.br (tgt := 26) (pc' := 22) (a1 ≠ 42) (fun _ _ kt kf => x_icmp_ne dX5_joinOf_19 rfl kt kf) (fun c => ?_) (fun c => ?_)
      · have h := h.1 c
        refine Xi.up (pc' := 27) (fun _ _ k => x_iconst dX5_joinOf_26 (show inR 0 from ⟨by decide, by decide⟩) k) ?_
        exact Xi.ret ⟨dX5_joinOf_27, Or.inl rfl⟩ h
      · have h := h.2 c
        refine Xi.up (pc' := 23) (fun _ _ k => x_iconst dX5_joinOf_22 (show inR 3 from ⟨by decide, by decide⟩) k) ?_
        refine Xi.up (pc' := 27) (fun _ _ k => x_goto dX5_joinOf_23 rfl k) ?_
        exact Xi.ret ⟨dX5_joinOf_27, Or.inl rfl⟩ h
    · have h := h.2 c
      refine Xi.up (pc' := 15) (fun _ _ k => x_iconst dX5_joinOf_14 (show inR 2 from ⟨by decide, by decide⟩) k) ?_
      exact Xi.ret ⟨dX5_joinOf_15, Or.inl rfl⟩ h
  · have h := h.2 c
    refine Xi.up (pc' := 7) (fun _ _ k => x_iconst dX5_joinOf_6 (show inR 1 from ⟨by decide, by decide⟩) k) ?_
    exact Xi.ret ⟨dX5_joinOf_7, Or.inl rfl⟩ h
set_option maxHeartbeats 4000000 in
set_option maxRecDepth 20000 in
theorem B5_readFactor {d : Nat} {K M : ZMem} {Q : Int → ZMem → Prop} (a1 : Nat) (a2 : Int) (hK : KW K M) (h0 : ReaderAt K 5) (h1 : FormulasAt K a1) (h : Xi (d + 1) q5_readFactor 5 [some (zr 5), some (zr a1), some (zi a2), some (zi 0), some (zi 0), none, none] [] M Q) : Ci (d + 1) q5_readFactor [zr 5, zr a1, zi a2] M Q := by
  refine Ci.of rfl rfl (Nat.le_of_ble_eq_true rfl) (fun w hw x e => by subst e; simp at hw) (L := [some (zr 5), some (zr a1), some (zi a2), none, none, none, none]) rfl ?_
  refine Xi.up (pc' := 1) (fun _ _ k => x_iconst dX5_readFactor_0 (show inR 0 from ⟨by decide, by decide⟩) k) ?_
  refine Xi.up (pc' := 2) (L' := [some (zr 5), some (zr a1), some (zi a2), some (zi 0), none, none, none]) (fun _ _ k => x_istore_n dX5_readFactor_1 rfl (by decide) rfl k) ?_
  refine Xi.up (pc' := 3) (fun _ _ k => x_iconst dX5_readFactor_2 (show inR 0 from ⟨by decide, by decide⟩) k) ?_
  refine Xi.up (pc' := 5) (L' := [some (zr 5), some (zr a1), some (zi a2), some (zi 0), some (zi 0), none, none]) (fun _ _ k => x_istore dX5_readFactor_3 (by decide) rfl k) ?_
  exact h
set_option maxHeartbeats 4000000 in
set_option maxRecDepth 20000 in
theorem B5_readFactor_5 {d : Nat} {K M : ZMem} {Q : Int → ZMem → Prop} (a1 : Nat) (a2 : Int) (l3 : Int) (l4 : Int) (hK : KW K M) (h0 : ReaderAt K 5) (h1 : FormulasAt K a1) (h : ((150 ≤ l4 → (Ci d q7_at [zr 3, zi (mI M 5 4)] M (fun x2 M1 => KW K M1 ∧ Ci d q5_isVariable [zi x2] M1 (fun x6 M5 => KW K M5 ∧ ((x6 = 0 → (Ci d q5_isDigit [zi x2] M5 (fun x10 M9 => KW K M9 ∧ ((x10 ≠ 0 → (Xi (d + 1) q5_readFactor 119 [some (zr 5), some (zr a1), some (zi a2), some (zi l3), none, some (zi 0), some (zi 0)] [] M9 Q)) ∧ (¬ (x10 ≠ 0) → (Q 0 M9)))))) ∧ (¬ (x6 = 0) → ((inR (1000 + x2)) ∧ (inR ((1000 + x2) - 97)) ∧ Cv d q1_addFactor [zr a1, zi a2, zi ((1000 + x2) - 97), zi l3] M5 (fun M15 => KW K M15 ∧ (inR ((mI M15 5 4) + 1)) ∧ Q 1 (sI M15 5 4 ((mI M15 5 4) + 1)))))))))) ∧ (¬ (150 ≤ l4) → (Ci d q7_at [zr 3, zi (mI M 5 4)] M (fun x21 M20 => KW K M20 ∧ ((x21 ≠ 45 → (Ci d q7_at [zr 3, zi (mI M20 5 4)] M20 (fun x25 M24 => KW K M24 ∧ Ci d q5_isVariable [zi x25] M24 (fun x29 M28 => KW K M28 ∧ ((x29 = 0 → (Ci d q5_isDigit [zi x25] M28 (fun x33 M32 => KW K M32 ∧ ((x33 ≠ 0 → (Xi (d + 1) q5_readFactor 119 [some (zr 5), some (zr a1), some (zi a2), some (zi l3), none, some (zi 0), some (zi 0)] [] M32 Q)) ∧ (¬ (x33 ≠ 0) → (Q 0 M32)))))) ∧ (¬ (x29 = 0) → ((inR (1000 + x25)) ∧ (inR ((1000 + x25) - 97)) ∧ Cv d q1_addFactor [zr a1, zi a2, zi ((1000 + x25) - 97), zi l3] M28 (fun M38 => KW K M38 ∧ (inR ((mI M38 5 4) + 1)) ∧ Q 1 (sI M38 5 4 ((mI M38 5 4) + 1)))))))))) ∧ (¬ (x21 ≠ 45) → ((l3 ≠ 0 → ((inR ((mI M20 5 4) + 1)) ∧ (inR (l4 + 1)) ∧ Xi (d + 1) q5_readFactor 5 [some (zr 5), some (zr a1), some (zi a2), some (zi 0), some (zi (l4 + 1)), none, none] [] (sI M20 5 4 ((mI M20 5 4) + 1)) Q)) ∧ (¬ (l3 ≠ 0) → ((inR ((mI M20 5 4) + 1)) ∧ (inR (l4 + 1)) ∧ Xi (d + 1) q5_readFactor 5 [some (zr 5), some (zr a1), some (zi a2), some (zi 1), some (zi (l4 + 1)), none, none] [] (sI M20 5 4 ((mI M20 5 4) + 1)) Q)))))))))) : Xi (d + 1) q5_readFactor 5 [some (zr 5), some (zr a1), some (zi a2), some (zi l3), some (zi l4), none, none] [] M Q := by
  refine Xi.up (pc' := 7) (fun _ _ k => x_iload dX5_readFactor_5 rfl k) ?_
  refine Xi.up (pc' := 10) (fun _ _ k => x_sipush dX5_readFactor_7 (show inR 150 from ⟨by decide, by decide⟩) (by decide) k) ?_
  refine Xi.br (tgt := 55) (pc' := 13) (150 ≤ l4) (fun _ _ kt kf => x_icmp_ge dX5_readFactor_10 rfl kt kf) (fun c => ?_) (fun c => ?_)
  · have h := h.1 c
    refine Xi.up (pc' := 56) (fun _ _ k => x_aload_n dX5_readFactor_55 rfl rfl k) ?_
    refine Xi.up (pc' := 59) (fun _ _ k => x_getRK hK lf5_9 rfl dX5_readFactor_56 h0.1 h0.2.1 k) ?_
    refine Xi.up (pc' := 60) (fun _ _ k => x_aload_n dX5_readFactor_59 rfl rfl k) ?_
    refine Xi.up (pc' := 63) (fun _ _ k => x_getIK hK lf5_32 rfl dX5_readFactor_60 h0.1 k) ?_
    obtain ⟨x2, M1, hc4, hK3, h⟩ := h
    refine Xi.up (pc' := 66) (st' := [zi x2]) (fun _ _ k => x_callVK (ci := 7) (as := [zi (mI M 5 4)]) (st := []) hK k7_at lm5_71 dX5_readFactor_63 rfl (by decide) (zs8 rfl) h0.2.2.2.2.2.2.2.1.1 ⟨_, _, rfl⟩ hc4 k) ?_
    refine Xi.up (pc' := 68) (L' := [some (zr 5), some (zr a1), some (zi a2), some (zi l3), some (zi x2), none, none]) (fun _ _ k => x_istore dX5_readFactor_66 (by decide) rfl k) ?_
    refine Xi.up (pc' := 70) (fun _ _ k => x_iload dX5_readFactor_68 rfl k) ?_
    obtain ⟨x6, M5, hc8, hK7, h⟩ := h
    refine Xi.up (pc' := 73) (st' := [zi x6]) (fun _ _ k => x_callS (as := [zi x2]) (st := []) k5_isVariable lm5_83 dX5_readFactor_70 rfl (by decide) (zs8 rfl) hc8 k) ?_
    refine Xi.br (tgt := 103) (pc' := 76) (x6 = 0) (fun _ _ kt kf => x_if_eq dX5_readFactor_73 rfl kt kf) (fun c => ?_) (fun c => ?_)
    · have h := h.1 c
      refine Xi.up (pc' := 105) (fun _ _ k => x_iload dX5_readFactor_103 rfl k) ?_
      obtain ⟨x10, M9, hc12, hK11, h⟩ := h
      refine Xi.up (pc' := 108) (st' := [zi x10]) (fun _ _ k => x_callS (as := [zi x2]) (st := []) k5_isDigit lm5_111 dX5_readFactor_105 rfl (by decide) (zs8 rfl) hc12 k) ?_
      refine Xi.br (tgt := 113) (pc' := 111) (x10 ≠ 0) (fun _ _ kt kf => x_if_ne dX5_readFactor_108 rfl kt kf) (fun c => ?_) (fun c => ?_)
      · have h := h.1 c
        refine Xi.up (pc' := 114) (fun _ _ k => x_iconst dX5_readFactor_113 (show inR 0 from ⟨by decide, by decide⟩) k) ?_
        refine Xi.up (pc' := 116) (L' := [some (zr 5), some (zr a1), some (zi a2), some (zi l3), some (zi x2), some (zi 0), none]) (fun _ _ k => x_istore dX5_readFactor_114 (by decide) rfl k) ?_
        refine Xi.up (pc' := 117) (fun _ _ k => x_iconst dX5_readFactor_116 (show inR 0 from ⟨by decide, by decide⟩) k) ?_
        refine Xi.up (pc' := 119) (L' := [some (zr 5), some (zr a1), some (zi a2), some (zi l3), some (zi x2), some (zi 0), some (zi 0)]) (fun _ _ k => x_istore dX5_readFactor_117 (by decide) rfl k) ?_
        exact Xi.up (fun _ _ k => x_less (L' := [some (zr 5), some (zr a1), some (zi a2), some (zi l3), none, some (zi 0), some (zi 0)]) (⟨rfl, ⟨rfl, ⟨rfl, ⟨rfl, ⟨rfl, ⟨rfl, trivial⟩⟩⟩⟩⟩⟩) k) h
      · have h := h.2 c
        refine Xi.up (pc' := 112) (fun _ _ k => x_iconst dX5_readFactor_111 (show inR 0 from ⟨by decide, by decide⟩) k) ?_
        exact Xi.ret ⟨dX5_readFactor_112, Or.inr ⟨rfl, Or.inl rfl⟩⟩ h
    · have h := h.2 c
      refine Xi.up (pc' := 77) (fun _ _ k => x_aload_n dX5_readFactor_76 rfl rfl k) ?_
      refine Xi.up (pc' := 78) (fun _ _ k => x_iload_n dX5_readFactor_77 rfl rfl k) ?_
      refine Xi.up (pc' := 81) (fun _ _ k => x_sipush dX5_readFactor_78 (show inR 1000 from ⟨by decide, by decide⟩) (by decide) k) ?_
      refine Xi.up (pc' := 83) (fun _ _ k => x_iload dX5_readFactor_81 rfl k) ?_
      obtain ⟨g13, h⟩ := h
      refine Xi.up (pc' := 84) (fun _ _ k => x_iadd dX5_readFactor_83 g13 k) ?_
      refine Xi.up (pc' := 86) (fun _ _ k => x_bipush dX5_readFactor_84 (show inR 97 from ⟨by decide, by decide⟩) (by decide) k) ?_
      obtain ⟨g14, h⟩ := h
      refine Xi.up (pc' := 87) (fun _ _ k => x_isub dX5_readFactor_86 g14 k) ?_
      refine Xi.up (pc' := 88) (fun _ _ k => x_iload_n dX5_readFactor_87 rfl rfl k) ?_
      obtain ⟨M15, hc17, hK16, h⟩ := h
      refine Xi.up (pc' := 91) (st' := []) (fun _ _ k => x_callVK (ci := 1) (as := [zi a2, zi ((1000 + x2) - 97), zi l3]) (st := []) hK7 k1_addFactor lm5_129 dX5_readFactor_88 rfl (by decide) (zs8 rfl) h1.1 ⟨_, _, rfl⟩ hc17 k) ?_
      refine Xi.up (pc' := 92) (fun _ _ k => x_aload_n dX5_readFactor_91 rfl rfl k) ?_
      refine Xi.up (pc' := 93) (fun _ _ k => x_dupR dX5_readFactor_92 k) ?_
      refine Xi.up (pc' := 96) (fun _ _ k => x_getIK hK16 lf5_32 rfl dX5_readFactor_93 h0.1 k) ?_
      refine Xi.up (pc' := 97) (fun _ _ k => x_iconst dX5_readFactor_96 (show inR 1 from ⟨by decide, by decide⟩) k) ?_
      obtain ⟨g18, h⟩ := h
      refine Xi.up (pc' := 98) (fun _ _ k => x_iadd dX5_readFactor_97 g18 k) ?_
      refine Xi.up (pc' := 101) (fun _ _ k => x_putIK hK16 lf5_32 rfl rfl (Or.inl rfl) dX5_readFactor_98 h0.1 k) ?_
      have hK19 := KW.sI hK16 5 4 ((mI M15 5 4) + 1)
      refine Xi.up (pc' := 102) (fun _ _ k => x_iconst dX5_readFactor_101 (show inR 1 from ⟨by decide, by decide⟩) k) ?_
      exact Xi.ret ⟨dX5_readFactor_102, Or.inr ⟨rfl, Or.inr rfl⟩⟩ h
  · have h := h.2 c
    refine Xi.up (pc' := 14) (fun _ _ k => x_aload_n dX5_readFactor_13 rfl rfl k) ?_
    refine Xi.up (pc' := 17) (fun _ _ k => x_getRK hK lf5_9 rfl dX5_readFactor_14 h0.1 h0.2.1 k) ?_
    refine Xi.up (pc' := 18) (fun _ _ k => x_aload_n dX5_readFactor_17 rfl rfl k) ?_
    refine Xi.up (pc' := 21) (fun _ _ k => x_getIK hK lf5_32 rfl dX5_readFactor_18 h0.1 k) ?_
    obtain ⟨x21, M20, hc23, hK22, h⟩ := h
    refine Xi.up (pc' := 24) (st' := [zi x21]) (fun _ _ k => x_callVK (ci := 7) (as := [zi (mI M 5 4)]) (st := []) hK k7_at lm5_71 dX5_readFactor_21 rfl (by decide) (zs8 rfl) h0.2.2.2.2.2.2.2.1.1 ⟨_, _, rfl⟩ hc23 k) ?_
    refine Xi.up (pc' := 26) (fun _ _ k => x_bipush dX5_readFactor_24 (show inR 45 from ⟨by decide, by decide⟩) (by decide) k) ?_
    refine Xi.br (tgt := 55) (pc' := 29) (x21 ≠ 45) (fun _ _ kt kf => x_icmp_ne dX5_readFactor_26 rfl kt kf) (fun c => ?_) (fun c => ?_)
    · have h := h.1 c
      refine Xi.up (pc' := 56) (fun _ _ k => x_aload_n dX5_readFactor_55 rfl rfl k) ?_
      refine Xi.up (pc' := 59) (fun _ _ k => x_getRK hK22 lf5_9 rfl dX5_readFactor_56 h0.1 h0.2.1 k) ?_
      refine Xi.up (pc' := 60) (fun _ _ k => x_aload_n dX5_readFactor_59 rfl rfl k) ?_
      refine Xi.up (pc' := 63) (fun _ _ k => x_getIK hK22 lf5_32 rfl dX5_readFactor_60 h0.1 k) ?_
      obtain ⟨x25, M24, hc27, hK26, h⟩ := h
      refine Xi.up (pc' := 66) (st' := [zi x25]) (fun _ _ k => x_callVK (ci := 7) (as := [zi (mI M20 5 4)]) (st := []) hK22 k7_at lm5_71 dX5_readFactor_63 rfl (by decide) (zs8 rfl) h0.2.2.2.2.2.2.2.1.1 ⟨_, _, rfl⟩ hc27 k) ?_
      refine Xi.up (pc' := 68) (L' := [some (zr 5), some (zr a1), some (zi a2), some (zi l3), some (zi x25), none, none]) (fun _ _ k => x_istore dX5_readFactor_66 (by decide) rfl k) ?_
      refine Xi.up (pc' := 70) (fun _ _ k => x_iload dX5_readFactor_68 rfl k) ?_
      obtain ⟨x29, M28, hc31, hK30, h⟩ := h
      refine Xi.up (pc' := 73) (st' := [zi x29]) (fun _ _ k => x_callS (as := [zi x25]) (st := []) k5_isVariable lm5_83 dX5_readFactor_70 rfl (by decide) (zs8 rfl) hc31 k) ?_
      refine Xi.br (tgt := 103) (pc' := 76) (x29 = 0) (fun _ _ kt kf => x_if_eq dX5_readFactor_73 rfl kt kf) (fun c => ?_) (fun c => ?_)
      · have h := h.1 c
        refine Xi.up (pc' := 105) (fun _ _ k => x_iload dX5_readFactor_103 rfl k) ?_
        obtain ⟨x33, M32, hc35, hK34, h⟩ := h
        refine Xi.up (pc' := 108) (st' := [zi x33]) (fun _ _ k => x_callS (as := [zi x25]) (st := []) k5_isDigit lm5_111 dX5_readFactor_105 rfl (by decide) (zs8 rfl) hc35 k) ?_
        refine Xi.br (tgt := 113) (pc' := 111) (x33 ≠ 0) (fun _ _ kt kf => x_if_ne dX5_readFactor_108 rfl kt kf) (fun c => ?_) (fun c => ?_)
        · have h := h.1 c
          refine Xi.up (pc' := 114) (fun _ _ k => x_iconst dX5_readFactor_113 (show inR 0 from ⟨by decide, by decide⟩) k) ?_
          refine Xi.up (pc' := 116) (L' := [some (zr 5), some (zr a1), some (zi a2), some (zi l3), some (zi x25), some (zi 0), none]) (fun _ _ k => x_istore dX5_readFactor_114 (by decide) rfl k) ?_
          refine Xi.up (pc' := 117) (fun _ _ k => x_iconst dX5_readFactor_116 (show inR 0 from ⟨by decide, by decide⟩) k) ?_
          refine Xi.up (pc' := 119) (L' := [some (zr 5), some (zr a1), some (zi a2), some (zi l3), some (zi x25), some (zi 0), some (zi 0)]) (fun _ _ k => x_istore dX5_readFactor_117 (by decide) rfl k) ?_
          exact Xi.up (fun _ _ k => x_less (L' := [some (zr 5), some (zr a1), some (zi a2), some (zi l3), none, some (zi 0), some (zi 0)]) (⟨rfl, ⟨rfl, ⟨rfl, ⟨rfl, ⟨rfl, ⟨rfl, trivial⟩⟩⟩⟩⟩⟩) k) h
        · have h := h.2 c
          refine Xi.up (pc' := 112) (fun _ _ k => x_iconst dX5_readFactor_111 (show inR 0 from ⟨by decide, by decide⟩) k) ?_
          exact Xi.ret ⟨dX5_readFactor_112, Or.inr ⟨rfl, Or.inl rfl⟩⟩ h
      · have h := h.2 c
        refine Xi.up (pc' := 77) (fun _ _ k => x_aload_n dX5_readFactor_76 rfl rfl k) ?_
        refine Xi.up (pc' := 78) (fun _ _ k => x_iload_n dX5_readFactor_77 rfl rfl k) ?_
        refine Xi.up (pc' := 81) (fun _ _ k => x_sipush dX5_readFactor_78 (show inR 1000 from ⟨by decide, by decide⟩) (by decide) k) ?_
        refine Xi.up (pc' := 83) (fun _ _ k => x_iload dX5_readFactor_81 rfl k) ?_
        obtain ⟨g36, h⟩ := h
        refine Xi.up (pc' := 84) (fun _ _ k => x_iadd dX5_readFactor_83 g36 k) ?_
        refine Xi.up (pc' := 86) (fun _ _ k => x_bipush dX5_readFactor_84 (show inR 97 from ⟨by decide, by decide⟩) (by decide) k) ?_
        obtain ⟨g37, h⟩ := h
        refine Xi.up (pc' := 87) (fun _ _ k => x_isub dX5_readFactor_86 g37 k) ?_
        refine Xi.up (pc' := 88) (fun _ _ k => x_iload_n dX5_readFactor_87 rfl rfl k) ?_
        obtain ⟨M38, hc40, hK39, h⟩ := h
        refine Xi.up (pc' := 91) (st' := []) (fun _ _ k => x_callVK (ci := 1) (as := [zi a2, zi ((1000 + x25) - 97), zi l3]) (st := []) hK30 k1_addFactor lm5_129 dX5_readFactor_88 rfl (by decide) (zs8 rfl) h1.1 ⟨_, _, rfl⟩ hc40 k) ?_
        refine Xi.up (pc' := 92) (fun _ _ k => x_aload_n dX5_readFactor_91 rfl rfl k) ?_
        refine Xi.up (pc' := 93) (fun _ _ k => x_dupR dX5_readFactor_92 k) ?_
        refine Xi.up (pc' := 96) (fun _ _ k => x_getIK hK39 lf5_32 rfl dX5_readFactor_93 h0.1 k) ?_
        refine Xi.up (pc' := 97) (fun _ _ k => x_iconst dX5_readFactor_96 (show inR 1 from ⟨by decide, by decide⟩) k) ?_
        obtain ⟨g41, h⟩ := h
        refine Xi.up (pc' := 98) (fun _ _ k => x_iadd dX5_readFactor_97 g41 k) ?_
        refine Xi.up (pc' := 101) (fun _ _ k => x_putIK hK39 lf5_32 rfl rfl (Or.inl rfl) dX5_readFactor_98 h0.1 k) ?_
        have hK42 := KW.sI hK39 5 4 ((mI M38 5 4) + 1)
        refine Xi.up (pc' := 102) (fun _ _ k => x_iconst dX5_readFactor_101 (show inR 1 from ⟨by decide, by decide⟩) k) ?_
        exact Xi.ret ⟨dX5_readFactor_102, Or.inr ⟨rfl, Or.inr rfl⟩⟩ h
    · have h := h.2 c
      refine Xi.up (pc' := 30) (fun _ _ k => x_iload_n dX5_readFactor_29 rfl rfl k) ?_
      refine Xi.br (tgt := 37) (pc' := 33) (l3 ≠ 0) (fun _ _ kt kf => x_if_ne dX5_readFactor_30 rfl kt kf) (fun c => ?_) (fun c => ?_)
      · have h := h.1 c
        refine Xi.up (pc' := 38) (fun _ _ k => x_iconst dX5_readFactor_37 (show inR 0 from ⟨by decide, by decide⟩) k) ?_
        refine Xi.up (pc' := 39) (L' := [some (zr 5), some (zr a1), some (zi a2), some (zi 0), some (zi l4), none, none]) (fun _ _ k => x_istore_n dX5_readFactor_38 rfl (by decide) rfl k) ?_
        refine Xi.up (pc' := 40) (fun _ _ k => x_aload_n dX5_readFactor_39 rfl rfl k) ?_
        refine Xi.up (pc' := 41) (fun _ _ k => x_dupR dX5_readFactor_40 k) ?_
        refine Xi.up (pc' := 44) (fun _ _ k => x_getIK hK22 lf5_32 rfl dX5_readFactor_41 h0.1 k) ?_
        refine Xi.up (pc' := 45) (fun _ _ k => x_iconst dX5_readFactor_44 (show inR 1 from ⟨by decide, by decide⟩) k) ?_
        obtain ⟨g43, h⟩ := h
        refine Xi.up (pc' := 46) (fun _ _ k => x_iadd dX5_readFactor_45 g43 k) ?_
        refine Xi.up (pc' := 49) (fun _ _ k => x_putIK hK22 lf5_32 rfl rfl (Or.inl rfl) dX5_readFactor_46 h0.1 k) ?_
        have hK44 := KW.sI hK22 5 4 ((mI M20 5 4) + 1)
        obtain ⟨g45, h⟩ := h
        refine Xi.up (pc' := 52) (L' := [some (zr 5), some (zr a1), some (zi a2), some (zi 0), some (zi (l4 + 1)), none, none]) (fun _ _ k => x_iinc dX5_readFactor_49 rfl g45 (by decide) rfl k) ?_
        refine Xi.up (pc' := 5) (fun _ _ k => x_goto dX5_readFactor_52 rfl k) ?_
        exact h
      · have h := h.2 c
        refine Xi.up (pc' := 34) (fun _ _ k => x_iconst dX5_readFactor_33 (show inR 1 from ⟨by decide, by decide⟩) k) ?_
        refine Xi.up (pc' := 38) (fun _ _ k => x_goto dX5_readFactor_34 rfl k) ?_
        refine Xi.up (pc' := 39) (L' := [some (zr 5), some (zr a1), some (zi a2), some (zi 1), some (zi l4), none, none]) (fun _ _ k => x_istore_n dX5_readFactor_38 rfl (by decide) rfl k) ?_
        refine Xi.up (pc' := 40) (fun _ _ k => x_aload_n dX5_readFactor_39 rfl rfl k) ?_
        refine Xi.up (pc' := 41) (fun _ _ k => x_dupR dX5_readFactor_40 k) ?_
        refine Xi.up (pc' := 44) (fun _ _ k => x_getIK hK22 lf5_32 rfl dX5_readFactor_41 h0.1 k) ?_
        refine Xi.up (pc' := 45) (fun _ _ k => x_iconst dX5_readFactor_44 (show inR 1 from ⟨by decide, by decide⟩) k) ?_
        obtain ⟨g46, h⟩ := h
        refine Xi.up (pc' := 46) (fun _ _ k => x_iadd dX5_readFactor_45 g46 k) ?_
        refine Xi.up (pc' := 49) (fun _ _ k => x_putIK hK22 lf5_32 rfl rfl (Or.inl rfl) dX5_readFactor_46 h0.1 k) ?_
        have hK47 := KW.sI hK22 5 4 ((mI M20 5 4) + 1)
        obtain ⟨g48, h⟩ := h
        refine Xi.up (pc' := 52) (L' := [some (zr 5), some (zr a1), some (zi a2), some (zi 1), some (zi (l4 + 1)), none, none]) (fun _ _ k => x_iinc dX5_readFactor_49 rfl g48 (by decide) rfl k) ?_
        refine Xi.up (pc' := 5) (fun _ _ k => x_goto dX5_readFactor_52 rfl k) ?_
        exact h
set_option maxHeartbeats 4000000 in
set_option maxRecDepth 20000 in
theorem B5_readFactor_119 {d : Nat} {K M : ZMem} {Q : Int → ZMem → Prop} (a1 : Nat) (a2 : Int) (l3 : Int) (l5 : Int) (l6 : Int) (hK : KW K M) (h0 : ReaderAt K 5) (h1 : FormulasAt K a1) (h : ((3 ≤ l6 → (Cv d q1_addFactor [zr a1, zi a2, zi l5, zi l3] M (fun M1 => KW K M1 ∧ Q 1 M1))) ∧ (¬ (3 ≤ l6) → (Ci d q7_at [zr 3, zi (mI M 5 4)] M (fun x5 M4 => KW K M4 ∧ Ci d q5_isDigit [zi x5] M4 (fun x9 M8 => KW K M8 ∧ ((x9 = 0 → (Cv d q1_addFactor [zr a1, zi a2, zi l5, zi l3] M8 (fun M12 => KW K M12 ∧ Q 1 M12))) ∧ (¬ (x9 = 0) → ((inR (l5 * 10)) ∧ Ci d q7_at [zr 3, zi (mI M8 5 4)] M8 (fun x17 M16 => KW K M16 ∧ (inR ((l5 * 10) + x17)) ∧ (inR (((l5 * 10) + x17) - 48)) ∧ (inR ((mI M16 5 4) + 1)) ∧ (inR (l6 + 1)) ∧ Xi (d + 1) q5_readFactor 119 [some (zr 5), some (zr a1), some (zi a2), some (zi l3), none, some (zi (((l5 * 10) + x17) - 48)), some (zi (l6 + 1))] [] (sI M16 5 4 ((mI M16 5 4) + 1)) Q)))))))))) : Xi (d + 1) q5_readFactor 119 [some (zr 5), some (zr a1), some (zi a2), some (zi l3), none, some (zi l5), some (zi l6)] [] M Q := by
  refine Xi.up (pc' := 121) (fun _ _ k => x_iload dX5_readFactor_119 rfl k) ?_
  refine Xi.up (pc' := 122) (fun _ _ k => x_iconst dX5_readFactor_121 (show inR 3 from ⟨by decide, by decide⟩) k) ?_
  refine Xi.br (tgt := 180) (pc' := 125) (3 ≤ l6) (fun _ _ kt kf => x_icmp_ge dX5_readFactor_122 rfl kt kf) (fun c => ?_) (fun c => ?_)
  · have h := h.1 c
    refine Xi.up (pc' := 181) (fun _ _ k => x_aload_n dX5_readFactor_180 rfl rfl k) ?_
    refine Xi.up (pc' := 182) (fun _ _ k => x_iload_n dX5_readFactor_181 rfl rfl k) ?_
    refine Xi.up (pc' := 184) (fun _ _ k => x_iload dX5_readFactor_182 rfl k) ?_
    refine Xi.up (pc' := 185) (fun _ _ k => x_iload_n dX5_readFactor_184 rfl rfl k) ?_
    obtain ⟨M1, hc3, hK2, h⟩ := h
    refine Xi.up (pc' := 188) (st' := []) (fun _ _ k => x_callVK (ci := 1) (as := [zi a2, zi l5, zi l3]) (st := []) hK k1_addFactor lm5_129 dX5_readFactor_185 rfl (by decide) (zs8 rfl) h1.1 ⟨_, _, rfl⟩ hc3 k) ?_
    refine Xi.up (pc' := 189) (fun _ _ k => x_iconst dX5_readFactor_188 (show inR 1 from ⟨by decide, by decide⟩) k) ?_
    exact Xi.ret ⟨dX5_readFactor_189, Or.inr ⟨rfl, Or.inr rfl⟩⟩ h
  · have h := h.2 c
    refine Xi.up (pc' := 126) (fun _ _ k => x_aload_n dX5_readFactor_125 rfl rfl k) ?_
    refine Xi.up (pc' := 129) (fun _ _ k => x_getRK hK lf5_9 rfl dX5_readFactor_126 h0.1 h0.2.1 k) ?_
    refine Xi.up (pc' := 130) (fun _ _ k => x_aload_n dX5_readFactor_129 rfl rfl k) ?_
    refine Xi.up (pc' := 133) (fun _ _ k => x_getIK hK lf5_32 rfl dX5_readFactor_130 h0.1 k) ?_
    obtain ⟨x5, M4, hc7, hK6, h⟩ := h
    refine Xi.up (pc' := 136) (st' := [zi x5]) (fun _ _ k => x_callVK (ci := 7) (as := [zi (mI M 5 4)]) (st := []) hK k7_at lm5_71 dX5_readFactor_133 rfl (by decide) (zs8 rfl) h0.2.2.2.2.2.2.2.1.1 ⟨_, _, rfl⟩ hc7 k) ?_
    obtain ⟨x9, M8, hc11, hK10, h⟩ := h
    refine Xi.up (pc' := 139) (st' := [zi x9]) (fun _ _ k => x_callS (as := [zi x5]) (st := []) k5_isDigit lm5_111 dX5_readFactor_136 rfl (by decide) (zs8 rfl) hc11 k) ?_
    refine Xi.br (tgt := 180) (pc' := 142) (x9 = 0) (fun _ _ kt kf => x_if_eq dX5_readFactor_139 rfl kt kf) (fun c => ?_) (fun c => ?_)
    · have h := h.1 c
      refine Xi.up (pc' := 181) (fun _ _ k => x_aload_n dX5_readFactor_180 rfl rfl k) ?_
      refine Xi.up (pc' := 182) (fun _ _ k => x_iload_n dX5_readFactor_181 rfl rfl k) ?_
      refine Xi.up (pc' := 184) (fun _ _ k => x_iload dX5_readFactor_182 rfl k) ?_
      refine Xi.up (pc' := 185) (fun _ _ k => x_iload_n dX5_readFactor_184 rfl rfl k) ?_
      obtain ⟨M12, hc14, hK13, h⟩ := h
      refine Xi.up (pc' := 188) (st' := []) (fun _ _ k => x_callVK (ci := 1) (as := [zi a2, zi l5, zi l3]) (st := []) hK10 k1_addFactor lm5_129 dX5_readFactor_185 rfl (by decide) (zs8 rfl) h1.1 ⟨_, _, rfl⟩ hc14 k) ?_
      refine Xi.up (pc' := 189) (fun _ _ k => x_iconst dX5_readFactor_188 (show inR 1 from ⟨by decide, by decide⟩) k) ?_
      exact Xi.ret ⟨dX5_readFactor_189, Or.inr ⟨rfl, Or.inr rfl⟩⟩ h
    · have h := h.2 c
      refine Xi.up (pc' := 144) (fun _ _ k => x_iload dX5_readFactor_142 rfl k) ?_
      refine Xi.up (pc' := 146) (fun _ _ k => x_bipush dX5_readFactor_144 (show inR 10 from ⟨by decide, by decide⟩) (by decide) k) ?_
      obtain ⟨g15, h⟩ := h
      refine Xi.up (pc' := 147) (fun _ _ k => x_imul dX5_readFactor_146 g15 k) ?_
      refine Xi.up (pc' := 148) (fun _ _ k => x_aload_n dX5_readFactor_147 rfl rfl k) ?_
      refine Xi.up (pc' := 151) (fun _ _ k => x_getRK hK10 lf5_9 rfl dX5_readFactor_148 h0.1 h0.2.1 k) ?_
      refine Xi.up (pc' := 152) (fun _ _ k => x_aload_n dX5_readFactor_151 rfl rfl k) ?_
      refine Xi.up (pc' := 155) (fun _ _ k => x_getIK hK10 lf5_32 rfl dX5_readFactor_152 h0.1 k) ?_
      obtain ⟨x17, M16, hc19, hK18, h⟩ := h
      refine Xi.up (pc' := 158) (st' := [zi x17, zi (l5 * 10)]) (fun _ _ k => x_callVK (ci := 7) (as := [zi (mI M8 5 4)]) (st := [zi (l5 * 10)]) hK10 k7_at lm5_71 dX5_readFactor_155 rfl (by decide) (zs8 rfl) h0.2.2.2.2.2.2.2.1.1 ⟨_, _, rfl⟩ hc19 k) ?_
      obtain ⟨g20, h⟩ := h
      refine Xi.up (pc' := 159) (fun _ _ k => x_iadd dX5_readFactor_158 g20 k) ?_
      refine Xi.up (pc' := 161) (fun _ _ k => x_bipush dX5_readFactor_159 (show inR 48 from ⟨by decide, by decide⟩) (by decide) k) ?_
      obtain ⟨g21, h⟩ := h
      refine Xi.up (pc' := 162) (fun _ _ k => x_isub dX5_readFactor_161 g21 k) ?_
      refine Xi.up (pc' := 164) (L' := [some (zr 5), some (zr a1), some (zi a2), some (zi l3), none, some (zi (((l5 * 10) + x17) - 48)), some (zi l6)]) (fun _ _ k => x_istore dX5_readFactor_162 (by decide) rfl k) ?_
      refine Xi.up (pc' := 165) (fun _ _ k => x_aload_n dX5_readFactor_164 rfl rfl k) ?_
      refine Xi.up (pc' := 166) (fun _ _ k => x_dupR dX5_readFactor_165 k) ?_
      refine Xi.up (pc' := 169) (fun _ _ k => x_getIK hK18 lf5_32 rfl dX5_readFactor_166 h0.1 k) ?_
      refine Xi.up (pc' := 170) (fun _ _ k => x_iconst dX5_readFactor_169 (show inR 1 from ⟨by decide, by decide⟩) k) ?_
      obtain ⟨g22, h⟩ := h
      refine Xi.up (pc' := 171) (fun _ _ k => x_iadd dX5_readFactor_170 g22 k) ?_
      refine Xi.up (pc' := 174) (fun _ _ k => x_putIK hK18 lf5_32 rfl rfl (Or.inl rfl) dX5_readFactor_171 h0.1 k) ?_
      have hK23 := KW.sI hK18 5 4 ((mI M16 5 4) + 1)
      obtain ⟨g24, h⟩ := h
      refine Xi.up (pc' := 177) (L' := [some (zr 5), some (zr a1), some (zi a2), some (zi l3), none, some (zi (((l5 * 10) + x17) - 48)), some (zi (l6 + 1))]) (fun _ _ k => x_iinc dX5_readFactor_174 rfl g24 (by decide) rfl k) ?_
      refine Xi.up (pc' := 119) (fun _ _ k => x_goto dX5_readFactor_177 rfl k) ?_
      exact h
set_option maxHeartbeats 4000000 in
set_option maxRecDepth 20000 in
theorem B5_readBehind {d : Nat} {K M : ZMem} {Q : Int → ZMem → Prop}  (hK : KW K M) (h0 : ReaderAt K 5) (h : (((mI M 5 5) < 1 → (Xi (d + 1) q5_readBehind 36 [some (zr 5), some (zi (-1)), none, none] [] M Q)) ∧ (¬ ((mI M 5 5) < 1) → ((6 < (mI M 5 5) → (Xi (d + 1) q5_readBehind 36 [some (zr 5), some (zi (-1)), none, none] [] M Q)) ∧ (¬ (6 < (mI M 5 5)) → ((inR ((mI M 5 5) - 1)) ∧ (0 ≤ ((mI M 5 5) - 1)) ∧ (((mI M 5 5) - 1) < 6) ∧ Xi (d + 1) q5_readBehind 36 [some (zr 5), some (zi (mI M 6 ((mI M 5 5) - 1).toNat)), none, none] [] M Q)))))) : Ci (d + 1) q5_readBehind [zr 5] M Q := by
  refine Ci.of rfl rfl (Nat.le_of_ble_eq_true rfl) (fun w hw x e => by subst e; simp at hw) (L := [some (zr 5), none, none, none]) rfl ?_
  refine Xi.up (pc' := 1) (fun _ _ k => x_aload_n dX5_readBehind_0 rfl rfl k) ?_
  refine Xi.up (pc' := 4) (fun _ _ k => x_getIK hK lf5_36 rfl dX5_readBehind_1 h0.1 k) ?_
  refine Xi.up (pc' := 5) (fun _ _ k => x_iconst dX5_readBehind_4 (show inR 1 from ⟨by decide, by decide⟩) k) ?_
  refine Xi.br (tgt := 34) (pc' := 8) ((mI M 5 5) < 1) (fun _ _ kt kf => x_icmp_lt dX5_readBehind_5 rfl kt kf) (fun c => ?_) (fun c => ?_)
  · have h := h.1 c
    refine Xi.up (pc' := 35) (fun _ _ k => x_iconst dX5_readBehind_34 (show inR (-1) from ⟨by decide, by decide⟩) k) ?_
    refine Xi.up (pc' := 36) (L' := [some (zr 5), some (zi (-1)), none, none]) (fun _ _ k => x_istore_n dX5_readBehind_35 rfl (by decide) rfl k) ?_
    exact h
  · have h := h.2 c
    refine Xi.up (pc' := 9) (fun _ _ k => x_aload_n dX5_readBehind_8 rfl rfl k) ?_
    refine Xi.up (pc' := 12) (fun _ _ k => x_getIK hK lf5_36 rfl dX5_readBehind_9 h0.1 k) ?_
    refine Xi.up (pc' := 13) (fun _ _ k => x_aload_n dX5_readBehind_12 rfl rfl k) ?_
    refine Xi.up (pc' := 16) (fun _ _ k => x_getRK hK lf5_15 rfl dX5_readBehind_13 h0.1 h0.2.2.1 k) ?_
    refine Xi.up (pc' := 17) (fun _ _ k => x_alenK hK dX5_readBehind_16 h0.2.2.2.2.2.1 (by decide) (by decide) k) ?_
    refine Xi.br (tgt := 34) (pc' := 20) (6 < (mI M 5 5)) (fun _ _ kt kf => x_icmp_gt dX5_readBehind_17 rfl kt kf) (fun c => ?_) (fun c => ?_)
    · have h := h.1 c
      refine Xi.up (pc' := 35) (fun _ _ k => x_iconst dX5_readBehind_34 (show inR (-1) from ⟨by decide, by decide⟩) k) ?_
      refine Xi.up (pc' := 36) (L' := [some (zr 5), some (zi (-1)), none, none]) (fun _ _ k => x_istore_n dX5_readBehind_35 rfl (by decide) rfl k) ?_
      exact h
    · have h := h.2 c
      refine Xi.up (pc' := 21) (fun _ _ k => x_aload_n dX5_readBehind_20 rfl rfl k) ?_
      refine Xi.up (pc' := 24) (fun _ _ k => x_getRK hK lf5_15 rfl dX5_readBehind_21 h0.1 h0.2.2.1 k) ?_
      refine Xi.up (pc' := 25) (fun _ _ k => x_aload_n dX5_readBehind_24 rfl rfl k) ?_
      refine Xi.up (pc' := 28) (fun _ _ k => x_getIK hK lf5_36 rfl dX5_readBehind_25 h0.1 k) ?_
      refine Xi.up (pc' := 29) (fun _ _ k => x_iconst dX5_readBehind_28 (show inR 1 from ⟨by decide, by decide⟩) k) ?_
      obtain ⟨g1, h⟩ := h
      refine Xi.up (pc' := 30) (fun _ _ k => x_isub dX5_readBehind_29 g1 k) ?_
      obtain ⟨g2, h⟩ := h
      obtain ⟨g3, h⟩ := h
      refine Xi.up (pc' := 31) (fun _ _ k => x_ialoadK hK dX5_readBehind_30 h0.2.2.2.2.2.1 g2 g3 k) ?_
      refine Xi.up (pc' := 35) (fun _ _ k => x_goto dX5_readBehind_31 rfl k) ?_
      refine Xi.up (pc' := 36) (L' := [some (zr 5), some (zi (mI M 6 ((mI M 5 5) - 1).toNat)), none, none]) (fun _ _ k => x_istore_n dX5_readBehind_35 rfl (by decide) rfl k) ?_
      exact h
set_option maxHeartbeats 4000000 in
set_option maxRecDepth 20000 in
theorem B5_readBehind_36 {d : Nat} {K M : ZMem} {Q : Int → ZMem → Prop} (l1 : Int) (hK : KW K M) (h0 : ReaderAt K 5) (h : Ci d q4_kindOf [zr 8, zi l1] M (fun x2 M1 => KW K M1 ∧ Ci d q7_at [zr 3, zi (mI M1 5 4)] M1 (fun x6 M5 => KW K M5 ∧ ((x6 ≠ 59 → ((x6 ≠ 124 → (Xi (d + 1) q5_readBehind 108 [some (zr 5), none, some (zi x2), some (zi x6)] [] M5 Q)) ∧ (¬ (x6 ≠ 124) → ((x2 ≠ 5 → (Xi (d + 1) q5_readBehind 108 [some (zr 5), none, some (zi x2), some (zi x6)] [] M5 Q)) ∧ (¬ (x2 ≠ 5) → (Ci d q4_addPart [zr 8, zi l1] M5 (fun x10 M9 => KW K M9 ∧ ((x10 ≠ 0 → (Cv d q5_setBefore [zr 5, zi (-1)] M9 (fun M13 => KW K M13 ∧ Xi (d + 1) q5_readBehind 204 [some (zr 5), none, none, none] [] (sI M13 5 6 1) Q))) ∧ (¬ (x10 ≠ 0) → (Q 0 M9)))))))))) ∧ (¬ (x6 ≠ 59) → (Xi (d + 1) q5_readBehind 204 [some (zr 5), none, none, none] [] (sI M5 5 6 1) Q)))))) : Xi (d + 1) q5_readBehind 36 [some (zr 5), some (zi l1), none, none] [] M Q := by
  refine Xi.up (pc' := 37) (fun _ _ k => x_aload_n dX5_readBehind_36 rfl rfl k) ?_
  refine Xi.up (pc' := 40) (fun _ _ k => x_getRK hK lf5_25 rfl dX5_readBehind_37 h0.1 h0.2.2.2.2.1 k) ?_
  refine Xi.up (pc' := 41) (fun _ _ k => x_iload_n dX5_readBehind_40 rfl rfl k) ?_
  obtain ⟨x2, M1, hc4, hK3, h⟩ := h
  refine Xi.up (pc' := 44) (st' := [zi x2]) (fun _ _ k => x_callVK (ci := 4) (as := [zi l1]) (st := []) hK k4_kindOf lm5_133 dX5_readBehind_41 rfl (by decide) (zs8 rfl) h0.2.2.2.2.2.2.2.2.1 ⟨_, _, rfl⟩ hc4 k) ?_
  refine Xi.up (pc' := 45) (L' := [some (zr 5), some (zi l1), some (zi x2), none]) (fun _ _ k => x_istore_n dX5_readBehind_44 rfl (by decide) rfl k) ?_
  refine Xi.up (pc' := 46) (fun _ _ k => x_aload_n dX5_readBehind_45 rfl rfl k) ?_
  refine Xi.up (pc' := 49) (fun _ _ k => x_getRK hK3 lf5_9 rfl dX5_readBehind_46 h0.1 h0.2.1 k) ?_
  refine Xi.up (pc' := 50) (fun _ _ k => x_aload_n dX5_readBehind_49 rfl rfl k) ?_
  refine Xi.up (pc' := 53) (fun _ _ k => x_getIK hK3 lf5_32 rfl dX5_readBehind_50 h0.1 k) ?_
  obtain ⟨x6, M5, hc8, hK7, h⟩ := h
  refine Xi.up (pc' := 56) (st' := [zi x6]) (fun _ _ k => x_callVK (ci := 7) (as := [zi (mI M1 5 4)]) (st := []) hK3 k7_at lm5_71 dX5_readBehind_53 rfl (by decide) (zs8 rfl) h0.2.2.2.2.2.2.2.1.1 ⟨_, _, rfl⟩ hc8 k) ?_
  refine Xi.up (pc' := 57) (L' := [some (zr 5), some (zi l1), some (zi x2), some (zi x6)]) (fun _ _ k => x_istore_n dX5_readBehind_56 rfl (by decide) rfl k) ?_
  refine Xi.up (pc' := 58) (fun _ _ k => x_iload_n dX5_readBehind_57 rfl rfl k) ?_
  refine Xi.up (pc' := 60) (fun _ _ k => x_bipush dX5_readBehind_58 (show inR 59 from ⟨by decide, by decide⟩) (by decide) k) ?_
  refine Xi.br (tgt := 71) (pc' := 63) (x6 ≠ 59) (fun _ _ kt kf => x_icmp_ne dX5_readBehind_60 rfl kt kf) (fun c => ?_) (fun c => ?_)
  · have h := h.1 c
    refine Xi.up (pc' := 72) (fun _ _ k => x_iload_n dX5_readBehind_71 rfl rfl k) ?_
    refine Xi.up (pc' := 74) (fun _ _ k => x_bipush dX5_readBehind_72 (show inR 124 from ⟨by decide, by decide⟩) (by decide) k) ?_
    refine Xi.br (tgt := 108) (pc' := 77) (x6 ≠ 124) (fun _ _ kt kf => x_icmp_ne dX5_readBehind_74 rfl kt kf) (fun c => ?_) (fun c => ?_)
    · have h := h.1 c
      exact Xi.up (fun _ _ k => x_less (L' := [some (zr 5), none, some (zi x2), some (zi x6)]) (⟨rfl, ⟨rfl, ⟨rfl, trivial⟩⟩⟩) k) h
    · have h := h.2 c
      refine Xi.up (pc' := 78) (fun _ _ k => x_iload_n dX5_readBehind_77 rfl rfl k) ?_
      refine Xi.up (pc' := 79) (fun _ _ k => x_iconst dX5_readBehind_78 (show inR 5 from ⟨by decide, by decide⟩) k) ?_
      refine Xi.br (tgt := 108) (pc' := 82) (x2 ≠ 5) (fun _ _ kt kf => x_icmp_ne dX5_readBehind_79 rfl kt kf) (fun c => ?_) (fun c => ?_)
      · have h := h.1 c
        exact Xi.up (fun _ _ k => x_less (L' := [some (zr 5), none, some (zi x2), some (zi x6)]) (⟨rfl, ⟨rfl, ⟨rfl, trivial⟩⟩⟩) k) h
      · have h := h.2 c
        refine Xi.up (pc' := 83) (fun _ _ k => x_aload_n dX5_readBehind_82 rfl rfl k) ?_
        refine Xi.up (pc' := 86) (fun _ _ k => x_getRK hK7 lf5_25 rfl dX5_readBehind_83 h0.1 h0.2.2.2.2.1 k) ?_
        refine Xi.up (pc' := 87) (fun _ _ k => x_iload_n dX5_readBehind_86 rfl rfl k) ?_
        obtain ⟨x10, M9, hc12, hK11, h⟩ := h
        refine Xi.up (pc' := 90) (st' := [zi x10]) (fun _ _ k => x_callVK (ci := 4) (as := [zi l1]) (st := []) hK7 k4_addPart lm5_105 dX5_readBehind_87 rfl (by decide) (zs8 rfl) h0.2.2.2.2.2.2.2.2.1 ⟨_, _, rfl⟩ hc12 k) ?_
        refine Xi.br (tgt := 95) (pc' := 93) (x10 ≠ 0) (fun _ _ kt kf => x_if_ne dX5_readBehind_90 rfl kt kf) (fun c => ?_) (fun c => ?_)
        · have h := h.1 c
          refine Xi.up (pc' := 96) (fun _ _ k => x_aload_n dX5_readBehind_95 rfl rfl k) ?_
          refine Xi.up (pc' := 97) (fun _ _ k => x_iconst dX5_readBehind_96 (show inR (-1) from ⟨by decide, by decide⟩) k) ?_
          obtain ⟨M13, hc15, hK14, h⟩ := h
          refine Xi.up (pc' := 100) (st' := []) (fun _ _ k => x_callVK (ci := 5) (as := [zi (-1)]) (st := []) hK11 k5_setBefore lm5_46 dX5_readBehind_97 rfl (by decide) (zs8 rfl) h0.1 ⟨_, _, rfl⟩ hc15 k) ?_
          refine Xi.up (pc' := 101) (fun _ _ k => x_aload_n dX5_readBehind_100 rfl rfl k) ?_
          refine Xi.up (pc' := 102) (fun _ _ k => x_iconst dX5_readBehind_101 (show inR 1 from ⟨by decide, by decide⟩) k) ?_
          refine Xi.up (pc' := 105) (fun _ _ k => x_putIK hK14 lf5_39 rfl rfl (Or.inr (Or.inr rfl)) dX5_readBehind_102 h0.1 k) ?_
          have hK16 := KW.sI hK14 5 6 1
          refine Xi.up (pc' := 204) (fun _ _ k => x_goto dX5_readBehind_105 rfl k) ?_
          exact Xi.up (fun _ _ k => x_less (L' := [some (zr 5), none, none, none]) (⟨rfl, trivial⟩) k) h
        · have h := h.2 c
          refine Xi.up (pc' := 94) (fun _ _ k => x_iconst dX5_readBehind_93 (show inR 0 from ⟨by decide, by decide⟩) k) ?_
          exact Xi.ret ⟨dX5_readBehind_94, Or.inr ⟨rfl, Or.inl rfl⟩⟩ h
  · have h := h.2 c
    refine Xi.up (pc' := 64) (fun _ _ k => x_aload_n dX5_readBehind_63 rfl rfl k) ?_
    refine Xi.up (pc' := 65) (fun _ _ k => x_iconst dX5_readBehind_64 (show inR 1 from ⟨by decide, by decide⟩) k) ?_
    refine Xi.up (pc' := 68) (fun _ _ k => x_putIK hK7 lf5_39 rfl rfl (Or.inr (Or.inr rfl)) dX5_readBehind_65 h0.1 k) ?_
    have hK17 := KW.sI hK7 5 6 1
    refine Xi.up (pc' := 204) (fun _ _ k => x_goto dX5_readBehind_68 rfl k) ?_
    exact Xi.up (fun _ _ k => x_less (L' := [some (zr 5), none, none, none]) (⟨rfl, trivial⟩) k) h
set_option maxHeartbeats 4000000 in
set_option maxRecDepth 20000 in
theorem B5_readBehind_108 {d : Nat} {K M : ZMem} {Q : Int → ZMem → Prop} (l2 : Int) (l3 : Int) (hK : KW K M) (h0 : ReaderAt K 5) (h : ((l3 ≠ 41 → (Xi (d + 1) q5_readBehind 138 [some (zr 5), none, some (zi l2), some (zi l3)] [] M Q)) ∧ (¬ (l3 ≠ 41) → ((l2 = 5 → ((inR ((mI M 5 5) - 1)) ∧ Xi (d + 1) q5_readBehind 204 [some (zr 5), none, none, none] [] (sI M 5 5 ((mI M 5 5) - 1)) Q)) ∧ (¬ (l2 = 5) → ((l2 ≠ 9 → (Xi (d + 1) q5_readBehind 138 [some (zr 5), none, some (zi l2), some (zi l3)] [] M Q)) ∧ (¬ (l2 ≠ 9) → ((inR ((mI M 5 5) - 1)) ∧ Xi (d + 1) q5_readBehind 204 [some (zr 5), none, none, none] [] (sI M 5 5 ((mI M 5 5) - 1)) Q)))))))) : Xi (d + 1) q5_readBehind 108 [some (zr 5), none, some (zi l2), some (zi l3)] [] M Q := by
  refine Xi.up (pc' := 109) (fun _ _ k => x_iload_n dX5_readBehind_108 rfl rfl k) ?_
  refine Xi.up (pc' := 111) (fun _ _ k => x_bipush dX5_readBehind_109 (show inR 41 from ⟨by decide, by decide⟩) (by decide) k) ?_
  refine Xi.br (tgt := 138) (pc' := 114) (l3 ≠ 41) (fun _ _ kt kf => x_icmp_ne dX5_readBehind_111 rfl kt kf) (fun c => ?_) (fun c => ?_)
  · have h := h.1 c
    exact h
  · have h := h.2 c
    refine Xi.up (pc' := 115) (fun _ _ k => x_iload_n dX5_readBehind_114 rfl rfl k) ?_
    refine Xi.up (pc' := 116) (fun _ _ k => x_iconst dX5_readBehind_115 (show inR 5 from ⟨by decide, by decide⟩) k) ?_
    refine Xi.br (tgt := 125) (pc' := 119) (l2 = 5) (fun _ _ kt kf => x_icmp_eq dX5_readBehind_116 rfl kt kf) (fun c => ?_) (fun c => ?_)
    · have h := h.1 c
      refine Xi.up (pc' := 126) (fun _ _ k => x_aload_n dX5_readBehind_125 rfl rfl k) ?_
      refine Xi.up (pc' := 127) (fun _ _ k => x_dupR dX5_readBehind_126 k) ?_
      refine Xi.up (pc' := 130) (fun _ _ k => x_getIK hK lf5_36 rfl dX5_readBehind_127 h0.1 k) ?_
      refine Xi.up (pc' := 131) (fun _ _ k => x_iconst dX5_readBehind_130 (show inR 1 from ⟨by decide, by decide⟩) k) ?_
      obtain ⟨g1, h⟩ := h
      refine Xi.up (pc' := 132) (fun _ _ k => x_isub dX5_readBehind_131 g1 k) ?_
      refine Xi.up (pc' := 135) (fun _ _ k => x_putIK hK lf5_36 rfl rfl (Or.inl rfl) dX5_readBehind_132 h0.1 k) ?_
      have hK2 := KW.sI hK 5 5 ((mI M 5 5) - 1)
      refine Xi.up (pc' := 204) (fun _ _ k => x_goto dX5_readBehind_135 rfl k) ?_
      exact Xi.up (fun _ _ k => x_less (L' := [some (zr 5), none, none, none]) (⟨rfl, trivial⟩) k) h
    · have h := h.2 c
      refine Xi.up (pc' := 120) (fun _ _ k => x_iload_n dX5_readBehind_119 rfl rfl k) ?_
      refine Xi.up (pc' := 122) (fun _ _ k => x_bipush dX5_readBehind_120 (show inR 9 from ⟨by decide, by decide⟩) (by decide) k) ?_
      refine Xi.br (tgt := 138) (pc' := 125) (l2 ≠ 9) (fun _ _ kt kf => x_icmp_ne dX5_readBehind_122 rfl kt kf) (fun c => ?_) (fun c => ?_)
      · have h := h.1 c
        exact h
      · have h := h.2 c
        refine Xi.up (pc' := 126) (fun _ _ k => x_aload_n dX5_readBehind_125 rfl rfl k) ?_
        refine Xi.up (pc' := 127) (fun _ _ k => x_dupR dX5_readBehind_126 k) ?_
        refine Xi.up (pc' := 130) (fun _ _ k => x_getIK hK lf5_36 rfl dX5_readBehind_127 h0.1 k) ?_
        refine Xi.up (pc' := 131) (fun _ _ k => x_iconst dX5_readBehind_130 (show inR 1 from ⟨by decide, by decide⟩) k) ?_
        obtain ⟨g3, h⟩ := h
        refine Xi.up (pc' := 132) (fun _ _ k => x_isub dX5_readBehind_131 g3 k) ?_
        refine Xi.up (pc' := 135) (fun _ _ k => x_putIK hK lf5_36 rfl rfl (Or.inl rfl) dX5_readBehind_132 h0.1 k) ?_
        have hK4 := KW.sI hK 5 5 ((mI M 5 5) - 1)
        refine Xi.up (pc' := 204) (fun _ _ k => x_goto dX5_readBehind_135 rfl k) ?_
        exact Xi.up (fun _ _ k => x_less (L' := [some (zr 5), none, none, none]) (⟨rfl, trivial⟩) k) h
set_option maxHeartbeats 4000000 in
set_option maxRecDepth 20000 in
theorem B5_readBehind_138 {d : Nat} {K M : ZMem} {Q : Int → ZMem → Prop} (l2 : Int) (l3 : Int) (hK : KW K M) (h0 : ReaderAt K 5) (h : ((l3 ≠ 93 → (Xi (d + 1) q5_readBehind 169 [some (zr 5), none, none, none] [] M Q)) ∧ (¬ (l3 ≠ 93) → ((l2 = 6 → ((inR ((mI M 5 5) - 1)) ∧ Xi (d + 1) q5_readBehind 204 [some (zr 5), none, none, none] [] (sI M 5 5 ((mI M 5 5) - 1)) Q)) ∧ (¬ (l2 = 6) → ((l2 ≠ 7 → (Xi (d + 1) q5_readBehind 169 [some (zr 5), none, none, none] [] M Q)) ∧ (¬ (l2 ≠ 7) → ((inR ((mI M 5 5) - 1)) ∧ Xi (d + 1) q5_readBehind 204 [some (zr 5), none, none, none] [] (sI M 5 5 ((mI M 5 5) - 1)) Q)))))))) : Xi (d + 1) q5_readBehind 138 [some (zr 5), none, some (zi l2), some (zi l3)] [] M Q := by
  refine Xi.up (pc' := 139) (fun _ _ k => x_iload_n dX5_readBehind_138 rfl rfl k) ?_
  refine Xi.up (pc' := 141) (fun _ _ k => x_bipush dX5_readBehind_139 (show inR 93 from ⟨by decide, by decide⟩) (by decide) k) ?_
  refine Xi.br (tgt := 169) (pc' := 144) (l3 ≠ 93) (fun _ _ kt kf => x_icmp_ne dX5_readBehind_141 rfl kt kf) (fun c => ?_) (fun c => ?_)
  · have h := h.1 c
    exact Xi.up (fun _ _ k => x_less (L' := [some (zr 5), none, none, none]) (⟨rfl, trivial⟩) k) h
  · have h := h.2 c
    refine Xi.up (pc' := 145) (fun _ _ k => x_iload_n dX5_readBehind_144 rfl rfl k) ?_
    refine Xi.up (pc' := 147) (fun _ _ k => x_bipush dX5_readBehind_145 (show inR 6 from ⟨by decide, by decide⟩) (by decide) k) ?_
    refine Xi.br (tgt := 156) (pc' := 150) (l2 = 6) (fun _ _ kt kf => x_icmp_eq dX5_readBehind_147 rfl kt kf) (fun c => ?_) (fun c => ?_)
    · have h := h.1 c
      refine Xi.up (pc' := 157) (fun _ _ k => x_aload_n dX5_readBehind_156 rfl rfl k) ?_
      refine Xi.up (pc' := 158) (fun _ _ k => x_dupR dX5_readBehind_157 k) ?_
      refine Xi.up (pc' := 161) (fun _ _ k => x_getIK hK lf5_36 rfl dX5_readBehind_158 h0.1 k) ?_
      refine Xi.up (pc' := 162) (fun _ _ k => x_iconst dX5_readBehind_161 (show inR 1 from ⟨by decide, by decide⟩) k) ?_
      obtain ⟨g1, h⟩ := h
      refine Xi.up (pc' := 163) (fun _ _ k => x_isub dX5_readBehind_162 g1 k) ?_
      refine Xi.up (pc' := 166) (fun _ _ k => x_putIK hK lf5_36 rfl rfl (Or.inl rfl) dX5_readBehind_163 h0.1 k) ?_
      have hK2 := KW.sI hK 5 5 ((mI M 5 5) - 1)
      refine Xi.up (pc' := 204) (fun _ _ k => x_goto dX5_readBehind_166 rfl k) ?_
      exact Xi.up (fun _ _ k => x_less (L' := [some (zr 5), none, none, none]) (⟨rfl, trivial⟩) k) h
    · have h := h.2 c
      refine Xi.up (pc' := 151) (fun _ _ k => x_iload_n dX5_readBehind_150 rfl rfl k) ?_
      refine Xi.up (pc' := 153) (fun _ _ k => x_bipush dX5_readBehind_151 (show inR 7 from ⟨by decide, by decide⟩) (by decide) k) ?_
      refine Xi.br (tgt := 169) (pc' := 156) (l2 ≠ 7) (fun _ _ kt kf => x_icmp_ne dX5_readBehind_153 rfl kt kf) (fun c => ?_) (fun c => ?_)
      · have h := h.1 c
        exact Xi.up (fun _ _ k => x_less (L' := [some (zr 5), none, none, none]) (⟨rfl, trivial⟩) k) h
      · have h := h.2 c
        refine Xi.up (pc' := 157) (fun _ _ k => x_aload_n dX5_readBehind_156 rfl rfl k) ?_
        refine Xi.up (pc' := 158) (fun _ _ k => x_dupR dX5_readBehind_157 k) ?_
        refine Xi.up (pc' := 161) (fun _ _ k => x_getIK hK lf5_36 rfl dX5_readBehind_158 h0.1 k) ?_
        refine Xi.up (pc' := 162) (fun _ _ k => x_iconst dX5_readBehind_161 (show inR 1 from ⟨by decide, by decide⟩) k) ?_
        obtain ⟨g3, h⟩ := h
        refine Xi.up (pc' := 163) (fun _ _ k => x_isub dX5_readBehind_162 g3 k) ?_
        refine Xi.up (pc' := 166) (fun _ _ k => x_putIK hK lf5_36 rfl rfl (Or.inl rfl) dX5_readBehind_163 h0.1 k) ?_
        have hK4 := KW.sI hK 5 5 ((mI M 5 5) - 1)
        refine Xi.up (pc' := 204) (fun _ _ k => x_goto dX5_readBehind_166 rfl k) ?_
        exact Xi.up (fun _ _ k => x_less (L' := [some (zr 5), none, none, none]) (⟨rfl, trivial⟩) k) h
set_option maxHeartbeats 4000000 in
set_option maxRecDepth 20000 in
theorem B5_readBehind_169 {d : Nat} {K M : ZMem} {Q : Int → ZMem → Prop}  (hK : KW K M) (h0 : ReaderAt K 5) (h : (((mI M 5 5) ≠ 0 → (((mI (sI M 5 7 0) 5 7) = 0 ∨ (mI (sI M 5 7 0) 5 7) = 1) ∧ Q (mI (sI M 5 7 0) 5 7) (sI M 5 7 0))) ∧ (¬ ((mI M 5 5) ≠ 0) → (((mI M 5 4) ≠ (mI M 3 1) → (((mI (sI M 5 7 0) 5 7) = 0 ∨ (mI (sI M 5 7 0) 5 7) = 1) ∧ Q (mI (sI M 5 7 0) 5 7) (sI M 5 7 0))) ∧ (¬ ((mI M 5 4) ≠ (mI M 3 1)) → (((mI (sI M 5 7 1) 5 7) = 0 ∨ (mI (sI M 5 7 1) 5 7) = 1) ∧ Q (mI (sI M 5 7 1) 5 7) (sI M 5 7 1))))))) : Xi (d + 1) q5_readBehind 169 [some (zr 5), none, none, none] [] M Q := by
  refine Xi.up (pc' := 170) (fun _ _ k => x_aload_n dX5_readBehind_169 rfl rfl k) ?_
  refine Xi.up (pc' := 171) (fun _ _ k => x_aload_n dX5_readBehind_170 rfl rfl k) ?_
  refine Xi.up (pc' := 174) (fun _ _ k => x_getIK hK lf5_36 rfl dX5_readBehind_171 h0.1 k) ?_
  refine Xi.br (tgt := 195) (pc' := 177) ((mI M 5 5) ≠ 0) (fun _ _ kt kf => x_if_ne dX5_readBehind_174 rfl kt kf) (fun c => ?_) (fun c => ?_)
  · have h := h.1 c
    refine Xi.up (pc' := 196) (fun _ _ k => x_iconst dX5_readBehind_195 (show inR 0 from ⟨by decide, by decide⟩) k) ?_
    refine Xi.up (pc' := 199) (fun _ _ k => x_putIK hK lf5_43 rfl rfl (Or.inr (Or.inl rfl)) dX5_readBehind_196 h0.1 k) ?_
    have hK1 := KW.sI hK 5 7 0
    refine Xi.up (pc' := 200) (fun _ _ k => x_aload_n dX5_readBehind_199 rfl rfl k) ?_
    refine Xi.up (pc' := 203) (fun _ _ k => x_getIK hK1 lf5_43 rfl dX5_readBehind_200 h0.1 k) ?_
    obtain ⟨g2, h⟩ := h
    exact Xi.ret ⟨dX5_readBehind_203, Or.inr ⟨rfl, g2⟩⟩ h
  · have h := h.2 c
    refine Xi.up (pc' := 178) (fun _ _ k => x_aload_n dX5_readBehind_177 rfl rfl k) ?_
    refine Xi.up (pc' := 181) (fun _ _ k => x_getIK hK lf5_32 rfl dX5_readBehind_178 h0.1 k) ?_
    refine Xi.up (pc' := 182) (fun _ _ k => x_aload_n dX5_readBehind_181 rfl rfl k) ?_
    refine Xi.up (pc' := 185) (fun _ _ k => x_getRK hK lf5_9 rfl dX5_readBehind_182 h0.1 h0.2.1 k) ?_
    refine Xi.up (pc' := 188) (fun _ _ k => x_getIK hK lf5_65 rfl dX5_readBehind_185 h0.2.2.2.2.2.2.2.1.1 k) ?_
    refine Xi.br (tgt := 195) (pc' := 191) ((mI M 5 4) ≠ (mI M 3 1)) (fun _ _ kt kf => x_icmp_ne dX5_readBehind_188 rfl kt kf) (fun c => ?_) (fun c => ?_)
    · have h := h.1 c
      refine Xi.up (pc' := 196) (fun _ _ k => x_iconst dX5_readBehind_195 (show inR 0 from ⟨by decide, by decide⟩) k) ?_
      refine Xi.up (pc' := 199) (fun _ _ k => x_putIK hK lf5_43 rfl rfl (Or.inr (Or.inl rfl)) dX5_readBehind_196 h0.1 k) ?_
      have hK3 := KW.sI hK 5 7 0
      refine Xi.up (pc' := 200) (fun _ _ k => x_aload_n dX5_readBehind_199 rfl rfl k) ?_
      refine Xi.up (pc' := 203) (fun _ _ k => x_getIK hK3 lf5_43 rfl dX5_readBehind_200 h0.1 k) ?_
      obtain ⟨g4, h⟩ := h
      exact Xi.ret ⟨dX5_readBehind_203, Or.inr ⟨rfl, g4⟩⟩ h
    · have h := h.2 c
      refine Xi.up (pc' := 192) (fun _ _ k => x_iconst dX5_readBehind_191 (show inR 1 from ⟨by decide, by decide⟩) k) ?_
      refine Xi.up (pc' := 196) (fun _ _ k => x_goto dX5_readBehind_192 rfl k) ?_
      refine Xi.up (pc' := 199) (fun _ _ k => x_putIK hK lf5_43 rfl rfl (Or.inr (Or.inr rfl)) dX5_readBehind_196 h0.1 k) ?_
      have hK5 := KW.sI hK 5 7 1
      refine Xi.up (pc' := 200) (fun _ _ k => x_aload_n dX5_readBehind_199 rfl rfl k) ?_
      refine Xi.up (pc' := 203) (fun _ _ k => x_getIK hK5 lf5_43 rfl dX5_readBehind_200 h0.1 k) ?_
      obtain ⟨g6, h⟩ := h
      exact Xi.ret ⟨dX5_readBehind_203, Or.inr ⟨rfl, g6⟩⟩ h
set_option maxHeartbeats 4000000 in
set_option maxRecDepth 20000 in
theorem B5_readBehind_204 {d : Nat} {K M : ZMem} {Q : Int → ZMem → Prop}  (hK : KW K M) (h0 : ReaderAt K 5) (h : (inR ((mI M 5 4) + 1)) ∧ Q 1 (sI M 5 4 ((mI M 5 4) + 1))) : Xi (d + 1) q5_readBehind 204 [some (zr 5), none, none, none] [] M Q := by
  refine Xi.up (pc' := 205) (fun _ _ k => x_aload_n dX5_readBehind_204 rfl rfl k) ?_
  refine Xi.up (pc' := 206) (fun _ _ k => x_dupR dX5_readBehind_205 k) ?_
  refine Xi.up (pc' := 209) (fun _ _ k => x_getIK hK lf5_32 rfl dX5_readBehind_206 h0.1 k) ?_
  refine Xi.up (pc' := 210) (fun _ _ k => x_iconst dX5_readBehind_209 (show inR 1 from ⟨by decide, by decide⟩) k) ?_
  obtain ⟨g1, h⟩ := h
  refine Xi.up (pc' := 211) (fun _ _ k => x_iadd dX5_readBehind_210 g1 k) ?_
  refine Xi.up (pc' := 214) (fun _ _ k => x_putIK hK lf5_32 rfl rfl (Or.inl rfl) dX5_readBehind_211 h0.1 k) ?_
  have hK2 := KW.sI hK 5 4 ((mI M 5 4) + 1)
  refine Xi.up (pc' := 215) (fun _ _ k => x_iconst dX5_readBehind_214 (show inR 1 from ⟨by decide, by decide⟩) k) ?_
  exact Xi.ret ⟨dX5_readBehind_215, Or.inr ⟨rfl, Or.inr rfl⟩⟩ h
set_option maxHeartbeats 4000000 in
set_option maxRecDepth 20000 in
theorem B5_isVariable {d : Nat} {K M : ZMem} {Q : Int → ZMem → Prop} (a1 : Int) (hK : KW K M)  (h : ((a1 < 97 → (Q 0 M)) ∧ (¬ (a1 < 97) → ((105 ≤ a1 → (Q 0 M)) ∧ (¬ (105 ≤ a1) → (Q 1 M)))))) : Ci d q5_isVariable [zi a1] M Q := by
  refine Ci.of rfl rfl (Nat.le_of_ble_eq_true rfl) (fun w hw x e => by subst e; simp at hw) (L := [some (zi a1)]) rfl ?_
  refine Xi.up (pc' := 1) (fun _ _ k => x_iload_n dX5_isVariable_0 rfl rfl k) ?_
  refine Xi.up (pc' := 3) (fun _ _ k => x_bipush dX5_isVariable_1 (show inR 97 from ⟨by decide, by decide⟩) (by decide) k) ?_
  refine Xi.br (tgt := 16) (pc' := 6) (a1 < 97) (fun _ _ kt kf => x_icmp_lt dX5_isVariable_3 rfl kt kf) (fun c => ?_) (fun c => ?_)
  · have h := h.1 c
    refine Xi.up (pc' := 17) (fun _ _ k => x_iconst dX5_isVariable_16 (show inR 0 from ⟨by decide, by decide⟩) k) ?_
    exact Xi.ret ⟨dX5_isVariable_17, Or.inr ⟨rfl, Or.inl rfl⟩⟩ h
  · have h := h.2 c
    refine Xi.up (pc' := 7) (fun _ _ k => x_iload_n dX5_isVariable_6 rfl rfl k) ?_
    refine Xi.up (pc' := 9) (fun _ _ k => x_bipush dX5_isVariable_7 (show inR 105 from ⟨by decide, by decide⟩) (by decide) k) ?_
    refine Xi.br (tgt := 16) (pc' := 12) (105 ≤ a1) (fun _ _ kt kf => x_icmp_ge dX5_isVariable_9 rfl kt kf) (fun c => ?_) (fun c => ?_)
    · have h := h.1 c
      refine Xi.up (pc' := 17) (fun _ _ k => x_iconst dX5_isVariable_16 (show inR 0 from ⟨by decide, by decide⟩) k) ?_
      exact Xi.ret ⟨dX5_isVariable_17, Or.inr ⟨rfl, Or.inl rfl⟩⟩ h
    · have h := h.2 c
      refine Xi.up (pc' := 13) (fun _ _ k => x_iconst dX5_isVariable_12 (show inR 1 from ⟨by decide, by decide⟩) k) ?_
      refine Xi.up (pc' := 17) (fun _ _ k => x_goto dX5_isVariable_13 rfl k) ?_
      exact Xi.ret ⟨dX5_isVariable_17, Or.inr ⟨rfl, Or.inr rfl⟩⟩ h
set_option maxHeartbeats 4000000 in
set_option maxRecDepth 20000 in
theorem B5_isDigit {d : Nat} {K M : ZMem} {Q : Int → ZMem → Prop} (a1 : Int) (hK : KW K M)  (h : ((a1 < 48 → (Q 0 M)) ∧ (¬ (a1 < 48) → ((57 < a1 → (Q 0 M)) ∧ (¬ (57 < a1) → (Q 1 M)))))) : Ci d q5_isDigit [zi a1] M Q := by
  refine Ci.of rfl rfl (Nat.le_of_ble_eq_true rfl) (fun w hw x e => by subst e; simp at hw) (L := [some (zi a1)]) rfl ?_
  refine Xi.up (pc' := 1) (fun _ _ k => x_iload_n dX5_isDigit_0 rfl rfl k) ?_
  refine Xi.up (pc' := 3) (fun _ _ k => x_bipush dX5_isDigit_1 (show inR 48 from ⟨by decide, by decide⟩) (by decide) k) ?_
  refine Xi.br (tgt := 16) (pc' := 6) (a1 < 48) (fun _ _ kt kf => x_icmp_lt dX5_isDigit_3 rfl kt kf) (fun c => ?_) (fun c => ?_)
  · have h := h.1 c
    refine Xi.up (pc' := 17) (fun _ _ k => x_iconst dX5_isDigit_16 (show inR 0 from ⟨by decide, by decide⟩) k) ?_
    exact Xi.ret ⟨dX5_isDigit_17, Or.inr ⟨rfl, Or.inl rfl⟩⟩ h
  · have h := h.2 c
    refine Xi.up (pc' := 7) (fun _ _ k => x_iload_n dX5_isDigit_6 rfl rfl k) ?_
    refine Xi.up (pc' := 9) (fun _ _ k => x_bipush dX5_isDigit_7 (show inR 57 from ⟨by decide, by decide⟩) (by decide) k) ?_
    refine Xi.br (tgt := 16) (pc' := 12) (57 < a1) (fun _ _ kt kf => x_icmp_gt dX5_isDigit_9 rfl kt kf) (fun c => ?_) (fun c => ?_)
    · have h := h.1 c
      refine Xi.up (pc' := 17) (fun _ _ k => x_iconst dX5_isDigit_16 (show inR 0 from ⟨by decide, by decide⟩) k) ?_
      exact Xi.ret ⟨dX5_isDigit_17, Or.inr ⟨rfl, Or.inl rfl⟩⟩ h
    · have h := h.2 c
      refine Xi.up (pc' := 13) (fun _ _ k => x_iconst dX5_isDigit_12 (show inR 1 from ⟨by decide, by decide⟩) k) ?_
      refine Xi.up (pc' := 17) (fun _ _ k => x_goto dX5_isDigit_13 rfl k) ?_
      exact Xi.ret ⟨dX5_isDigit_17, Or.inr ⟨rfl, Or.inr rfl⟩⟩ h
