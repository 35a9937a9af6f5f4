/-! the law, from each cut -/
set_option maxHeartbeats 4000000 in
set_option maxRecDepth 20000 in
theorem BL_8 {q : Nat × (Nat → Int)} {d : Nat} {K M : ZMem}  (hq : ∀ j, inR (q.2 j)) (hq1 : q.1 ≤ 260) (hK : KW K M) (h0 : TopAt K 2) (h : ((0 : Int) ≤ 0 ∧ 0 ≤ (1000 : Int)) ∧ (0 ≤ (zShr (scell q 0) 1)) ∧ (inR (((zShr (scell q 0) 1) % 4) - 3)) ∧ (0 ≤ (zShr (scell q 0) 4)) ∧ (inR ((((zShr (scell q 0) 1) % 4) - 3) + ((zShr (scell q 0) 4) % 5))) ∧ (inR (((((zShr (scell q 0) 1) % 4) - 3) + ((zShr (scell q 0) 4) % 5)) - 1)) ∧ XL q (d + 1) 38 [some (zr 1), some (zr 2), some (zi (scell q 0)), some (zi (((zShr (scell q 0) 1) % 4) - 3)), some (zi (((((zShr (scell q 0) 1) % 4) - 3) + ((zShr (scell q 0) 4) % 5)) - 1)), some (zr (mz M + 1)), none, none, none, none, none, none, none, none, none, none, none, none, none, none, none, none, none, none] [] (zNew M (1, 3) 3)) : XL q (d + 1) 8 [some (zr 1), some (zr 2), none, none, none, none, none, none, none, none, none, none, none, none, none, none, none, none, none, none, none, none, none, none] [] M := by
  refine XL.up (pc' := 9) (fun _ _ k => x_aload_n dXL_law_8 rfl rfl k) ?_
  refine XL.up (pc' := 10) (fun _ _ k => x_iconst dXL_law_9 (show inR 0 from ⟨by decide, by decide⟩) k) ?_
  obtain ⟨g1, h⟩ := h
  refine XL.up (pc' := 13) (fun _ _ k => x_cell hq hq1 g1 lmL_11 dXL_law_10 (zs8 rfl) k) ?_
  refine XL.up (pc' := 14) (L' := [some (zr 1), some (zr 2), some (zi (scell q 0)), none, none, none, none, none, none, none, none, none, none, none, none, none, none, none, none, none, none, none, none, none]) (fun _ _ k => x_istore_n dXL_law_13 rfl (by decide) rfl k) ?_
  refine XL.up (pc' := 15) (fun _ _ k => x_iload_n dXL_law_14 rfl rfl k) ?_
  refine XL.up (pc' := 16) (fun _ _ k => x_iconst dXL_law_15 (show inR 1 from ⟨by decide, by decide⟩) k) ?_
  refine XL.up (pc' := 17) (fun _ _ k => x_iushrK dXL_law_16 k) ?_
  refine XL.up (pc' := 18) (fun _ _ k => x_iconst dXL_law_17 (show inR 4 from ⟨by decide, by decide⟩) k) ?_
  obtain ⟨g2, h⟩ := h
  refine XL.up (pc' := 19) (fun _ _ k => x_iremK g2 (show (0 : Int) < 4 by decide) dXL_law_18 k) ?_
  refine XL.up (pc' := 20) (fun _ _ k => x_iconst dXL_law_19 (show inR 3 from ⟨by decide, by decide⟩) k) ?_
  obtain ⟨g3, h⟩ := h
  refine XL.up (pc' := 21) (fun _ _ k => x_isub dXL_law_20 g3 k) ?_
  refine XL.up (pc' := 22) (L' := [some (zr 1), some (zr 2), some (zi (scell q 0)), some (zi (((zShr (scell q 0) 1) % 4) - 3)), none, none, none, none, none, none, none, none, none, none, none, none, none, none, none, none, none, none, none, none]) (fun _ _ k => x_istore_n dXL_law_21 rfl (by decide) rfl k) ?_
  refine XL.up (pc' := 23) (fun _ _ k => x_iload_n dXL_law_22 rfl rfl k) ?_
  refine XL.up (pc' := 24) (fun _ _ k => x_iload_n dXL_law_23 rfl rfl k) ?_
  refine XL.up (pc' := 25) (fun _ _ k => x_iconst dXL_law_24 (show inR 4 from ⟨by decide, by decide⟩) k) ?_
  refine XL.up (pc' := 26) (fun _ _ k => x_iushrK dXL_law_25 k) ?_
  refine XL.up (pc' := 27) (fun _ _ k => x_iconst dXL_law_26 (show inR 5 from ⟨by decide, by decide⟩) k) ?_
  obtain ⟨g4, h⟩ := h
  refine XL.up (pc' := 28) (fun _ _ k => x_iremK g4 (show (0 : Int) < 5 by decide) dXL_law_27 k) ?_
  obtain ⟨g5, h⟩ := h
  refine XL.up (pc' := 29) (fun _ _ k => x_iadd dXL_law_28 g5 k) ?_
  refine XL.up (pc' := 30) (fun _ _ k => x_iconst dXL_law_29 (show inR 1 from ⟨by decide, by decide⟩) k) ?_
  obtain ⟨g6, h⟩ := h
  refine XL.up (pc' := 31) (fun _ _ k => x_isub dXL_law_30 g6 k) ?_
  refine XL.up (pc' := 33) (L' := [some (zr 1), some (zr 2), some (zi (scell q 0)), some (zi (((zShr (scell q 0) 1) % 4) - 3)), some (zi (((((zShr (scell q 0) 1) % 4) - 3) + ((zShr (scell q 0) 4) % 5)) - 1)), none, none, none, none, none, none, none, none, none, none, none, none, none, none, none, none, none, none, none]) (fun _ _ k => x_istore dXL_law_31 (by decide) rfl k) ?_
  refine XL.up (pc' := 34) (fun _ _ k => x_iconst dXL_law_33 (show inR 3 from ⟨by decide, by decide⟩) k) ?_
  refine XL.up (pc' := 36) (fun _ _ k => x_newarray (n := 3) dXL_law_34 (by decide) k) ?_
  refine XL.up (pc' := 38) (L' := [some (zr 1), some (zr 2), some (zi (scell q 0)), some (zi (((zShr (scell q 0) 1) % 4) - 3)), some (zi (((((zShr (scell q 0) 1) % 4) - 3) + ((zShr (scell q 0) 4) % 5)) - 1)), some (zr (mz M + 1)), none, none, none, none, none, none, none, none, none, none, none, none, none, none, none, none, none, none]) (fun _ _ k => x_astore dXL_law_36 (by decide) rfl k) ?_
  exact h
set_option maxHeartbeats 4000000 in
set_option maxRecDepth 20000 in
theorem BL_38 {q : Nat × (Nat → Int)} {d : Nat} {K M : ZMem} (l2 : Int) (l3 : Int) (l4 : Int) (hq : ∀ j, inR (q.2 j)) (hq1 : q.1 ≤ 260) (hK : KW K M) (h0 : TopAt K 2) (h5 : mS K 2230 = (1, 3)) (h : XL q (d + 1) 41 [some (zr 1), some (zr 2), some (zi l2), some (zi l3), some (zi l4), some (zr 2230), some (zi 0), none, none, none, none, none, none, none, none, none, none, none, none, none, none, none, none, none] [] M) : XL q (d + 1) 38 [some (zr 1), some (zr 2), some (zi l2), some (zi l3), some (zi l4), some (zr 2230), none, none, none, none, none, none, none, none, none, none, none, none, none, none, none, none, none, none] [] M := by
  refine XL.up (pc' := 39) (fun _ _ k => x_iconst dXL_law_38 (show inR 0 from ⟨by decide, by decide⟩) k) ?_
  refine XL.up (pc' := 41) (L' := [some (zr 1), some (zr 2), some (zi l2), some (zi l3), some (zi l4), some (zr 2230), some (zi 0), none, none, none, none, none, none, none, none, none, none, none, none, none, none, none, none, none]) (fun _ _ k => x_istore dXL_law_39 (by decide) rfl k) ?_
  exact h
set_option maxHeartbeats 4000000 in
set_option maxRecDepth 20000 in
theorem BL_41 {q : Nat × (Nat → Int)} {d : Nat} {K M : ZMem} (l2 : Int) (l3 : Int) (l4 : Int) (l6 : Int) (hq : ∀ j, inR (q.2 j)) (hq1 : q.1 ≤ 260) (hK : KW K M) (h0 : TopAt K 2) (h5 : mS K 2230 = (1, 3)) (h : ((3 ≤ l6 → (XL q (d + 1) 70 [some (zr 1), some (zr 2), some (zi l2), some (zi l3), some (zi l4), some (zr 2230), none, none, none, none, none, none, none, none, none, none, none, none, none, none, none, none, none, none] [] M)) ∧ (¬ (3 ≤ l6) → ((inR (3 * l6)) ∧ (inR (7 + (3 * l6))) ∧ (0 ≤ (zShr l2 (7 + (3 * l6)))) ∧ (0 ≤ l6) ∧ (l6 < 3) ∧ (inR (l6 + 1)) ∧ XL q (d + 1) 41 [some (zr 1), some (zr 2), some (zi l2), some (zi l3), some (zi l4), some (zr 2230), some (zi (l6 + 1)), none, none, none, none, none, none, none, none, none, none, none, none, none, none, none, none, none] [] (sI M 2230 l6.toNat ((zShr l2 (7 + (3 * l6))) % 9)))))) : XL q (d + 1) 41 [some (zr 1), some (zr 2), some (zi l2), some (zi l3), some (zi l4), some (zr 2230), some (zi l6), none, none, none, none, none, none, none, none, none, none, none, none, none, none, none, none, none] [] M := by
  refine XL.up (pc' := 43) (fun _ _ k => x_iload dXL_law_41 rfl k) ?_
  refine XL.up (pc' := 44) (fun _ _ k => x_iconst dXL_law_43 (show inR 3 from ⟨by decide, by decide⟩) k) ?_
  refine XL.br (tgt := 70) (pc' := 47) (3 ≤ l6) (fun _ _ kt kf => x_icmp_ge dXL_law_44 rfl kt kf) (fun c => ?_) (fun c => ?_)
  · have h := h.1 c
    exact XL.less (L' := [some (zr 1), some (zr 2), some (zi l2), some (zi l3), some (zi l4), some (zr 2230), none, none, none, none, none, none, none, none, none, none, none, none, none, none, none, none, none, none]) (⟨rfl, ⟨rfl, ⟨rfl, ⟨rfl, ⟨rfl, ⟨rfl, trivial⟩⟩⟩⟩⟩⟩) h
  · have h := h.2 c
    refine XL.up (pc' := 49) (fun _ _ k => x_aload dXL_law_47 rfl k) ?_
    refine XL.up (pc' := 51) (fun _ _ k => x_iload dXL_law_49 rfl k) ?_
    refine XL.up (pc' := 52) (fun _ _ k => x_iload_n dXL_law_51 rfl rfl k) ?_
    refine XL.up (pc' := 54) (fun _ _ k => x_bipush dXL_law_52 (show inR 7 from ⟨by decide, by decide⟩) (by decide) k) ?_
    refine XL.up (pc' := 55) (fun _ _ k => x_iconst dXL_law_54 (show inR 3 from ⟨by decide, by decide⟩) k) ?_
    refine XL.up (pc' := 57) (fun _ _ k => x_iload dXL_law_55 rfl k) ?_
    obtain ⟨g1, h⟩ := h
    refine XL.up (pc' := 58) (fun _ _ k => x_imul dXL_law_57 g1 k) ?_
    obtain ⟨g2, h⟩ := h
    refine XL.up (pc' := 59) (fun _ _ k => x_iadd dXL_law_58 g2 k) ?_
    refine XL.up (pc' := 60) (fun _ _ k => x_iushrK dXL_law_59 k) ?_
    refine XL.up (pc' := 62) (fun _ _ k => x_bipush dXL_law_60 (show inR 9 from ⟨by decide, by decide⟩) (by decide) k) ?_
    obtain ⟨g3, h⟩ := h
    refine XL.up (pc' := 63) (fun _ _ k => x_iremK g3 (show (0 : Int) < 9 by decide) dXL_law_62 k) ?_
    obtain ⟨g4, h⟩ := h
    obtain ⟨g5, h⟩ := h
    refine XL.up (pc' := 64) (fun _ _ k => x_iastoreK hK dXL_law_63 h5 g4 g5 k) ?_
    have hK6 := KW.sI hK 2230 l6.toNat ((zShr l2 (7 + (3 * l6))) % 9)
    obtain ⟨g7, h⟩ := h
    refine XL.up (pc' := 67) (L' := [some (zr 1), some (zr 2), some (zi l2), some (zi l3), some (zi l4), some (zr 2230), some (zi (l6 + 1)), none, none, none, none, none, none, none, none, none, none, none, none, none, none, none, none, none]) (fun _ _ k => x_iinc dXL_law_64 rfl g7 (by decide) rfl k) ?_
    refine XL.up (pc' := 41) (fun _ _ k => x_goto dXL_law_67 rfl k) ?_
    exact h
set_option maxHeartbeats 4000000 in
set_option maxRecDepth 20000 in
theorem BL_70 {q : Nat × (Nat → Int)} {d : Nat} {K M : ZMem} (l2 : Int) (l3 : Int) (l4 : Int) (hq : ∀ j, inR (q.2 j)) (hq1 : q.1 ≤ 260) (hK : KW K M) (h0 : TopAt K 2) (h5 : mS K 2230 = (1, 3)) (h : (0 ≤ (zShr l2 16)) ∧ (0 ≤ (zShr l2 19)) ∧ (inR (((zShr l2 19) % 9) - 4)) ∧ (0 ≤ (zShr l2 23)) ∧ XL q (d + 1) 97 [some (zr 1), some (zr 2), none, some (zi l3), some (zi l4), some (zr 2230), some (zi ((zShr l2 16) % 5)), some (zi (((zShr l2 19) % 9) - 4)), some (zi ((zShr l2 23) % 4)), none, none, none, none, none, none, none, none, none, none, none, none, none, none, none] [] M) : XL q (d + 1) 70 [some (zr 1), some (zr 2), some (zi l2), some (zi l3), some (zi l4), some (zr 2230), none, none, none, none, none, none, none, none, none, none, none, none, none, none, none, none, none, none] [] M := by
  refine XL.up (pc' := 71) (fun _ _ k => x_iload_n dXL_law_70 rfl rfl k) ?_
  refine XL.up (pc' := 73) (fun _ _ k => x_bipush dXL_law_71 (show inR 16 from ⟨by decide, by decide⟩) (by decide) k) ?_
  refine XL.up (pc' := 74) (fun _ _ k => x_iushrK dXL_law_73 k) ?_
  refine XL.up (pc' := 75) (fun _ _ k => x_iconst dXL_law_74 (show inR 5 from ⟨by decide, by decide⟩) k) ?_
  obtain ⟨g1, h⟩ := h
  refine XL.up (pc' := 76) (fun _ _ k => x_iremK g1 (show (0 : Int) < 5 by decide) dXL_law_75 k) ?_
  refine XL.up (pc' := 78) (L' := [some (zr 1), some (zr 2), some (zi l2), some (zi l3), some (zi l4), some (zr 2230), some (zi ((zShr l2 16) % 5)), none, none, none, none, none, none, none, none, none, none, none, none, none, none, none, none, none]) (fun _ _ k => x_istore dXL_law_76 (by decide) rfl k) ?_
  refine XL.up (pc' := 79) (fun _ _ k => x_iload_n dXL_law_78 rfl rfl k) ?_
  refine XL.up (pc' := 81) (fun _ _ k => x_bipush dXL_law_79 (show inR 19 from ⟨by decide, by decide⟩) (by decide) k) ?_
  refine XL.up (pc' := 82) (fun _ _ k => x_iushrK dXL_law_81 k) ?_
  refine XL.up (pc' := 84) (fun _ _ k => x_bipush dXL_law_82 (show inR 9 from ⟨by decide, by decide⟩) (by decide) k) ?_
  obtain ⟨g2, h⟩ := h
  refine XL.up (pc' := 85) (fun _ _ k => x_iremK g2 (show (0 : Int) < 9 by decide) dXL_law_84 k) ?_
  refine XL.up (pc' := 86) (fun _ _ k => x_iconst dXL_law_85 (show inR 4 from ⟨by decide, by decide⟩) k) ?_
  obtain ⟨g3, h⟩ := h
  refine XL.up (pc' := 87) (fun _ _ k => x_isub dXL_law_86 g3 k) ?_
  refine XL.up (pc' := 89) (L' := [some (zr 1), some (zr 2), some (zi l2), some (zi l3), some (zi l4), some (zr 2230), some (zi ((zShr l2 16) % 5)), some (zi (((zShr l2 19) % 9) - 4)), none, none, none, none, none, none, none, none, none, none, none, none, none, none, none, none]) (fun _ _ k => x_istore dXL_law_87 (by decide) rfl k) ?_
  refine XL.up (pc' := 90) (fun _ _ k => x_iload_n dXL_law_89 rfl rfl k) ?_
  refine XL.up (pc' := 92) (fun _ _ k => x_bipush dXL_law_90 (show inR 23 from ⟨by decide, by decide⟩) (by decide) k) ?_
  refine XL.up (pc' := 93) (fun _ _ k => x_iushrK dXL_law_92 k) ?_
  refine XL.up (pc' := 94) (fun _ _ k => x_iconst dXL_law_93 (show inR 4 from ⟨by decide, by decide⟩) k) ?_
  obtain ⟨g4, h⟩ := h
  refine XL.up (pc' := 95) (fun _ _ k => x_iremK g4 (show (0 : Int) < 4 by decide) dXL_law_94 k) ?_
  refine XL.up (pc' := 97) (L' := [some (zr 1), some (zr 2), some (zi l2), some (zi l3), some (zi l4), some (zr 2230), some (zi ((zShr l2 16) % 5)), some (zi (((zShr l2 19) % 9) - 4)), some (zi ((zShr l2 23) % 4)), none, none, none, none, none, none, none, none, none, none, none, none, none, none, none]) (fun _ _ k => x_istore dXL_law_95 (by decide) rfl k) ?_
  exact XL.less (L' := [some (zr 1), some (zr 2), none, some (zi l3), some (zi l4), some (zr 2230), some (zi ((zShr l2 16) % 5)), some (zi (((zShr l2 19) % 9) - 4)), some (zi ((zShr l2 23) % 4)), none, none, none, none, none, none, none, none, none, none, none, none, none, none, none]) (⟨rfl, ⟨rfl, ⟨rfl, ⟨rfl, ⟨rfl, ⟨rfl, ⟨rfl, ⟨rfl, trivial⟩⟩⟩⟩⟩⟩⟩⟩) h
set_option maxHeartbeats 4000000 in
set_option maxRecDepth 20000 in
theorem BL_97 {q : Nat × (Nat → Int)} {d : Nat} {K M : ZMem} (l3 : Int) (l4 : Int) (l6 : Int) (l7 : Int) (l8 : Int) (hq : ∀ j, inR (q.2 j)) (hq1 : q.1 ≤ 260) (hK : KW K M) (h0 : TopAt K 2) (h5 : mS K 2230 = (1, 3)) (h : Ci d q9_feed [zr 2, zi 97] M (fun x2 M1 => KW K M1 ∧ ((x2 ≤ 0 → (False)) ∧ (¬ (x2 ≤ 0) → (XL q (d + 1) 106 [some (zr 1), some (zr 2), none, some (zi l3), some (zi l4), some (zr 2230), some (zi l6), some (zi l7), some (zi l8), none, none, none, none, none, none, none, none, none, none, none, none, none, none, none] [] M1))))) : XL q (d + 1) 97 [some (zr 1), some (zr 2), none, some (zi l3), some (zi l4), some (zr 2230), some (zi l6), some (zi l7), some (zi l8), none, none, none, none, none, none, none, none, none, none, none, none, none, none, none] [] M := by
  refine XL.up (pc' := 98) (fun _ _ k => x_aload_n dXL_law_97 rfl rfl k) ?_
  refine XL.up (pc' := 100) (fun _ _ k => x_bipush dXL_law_98 (show inR 97 from ⟨by decide, by decide⟩) (by decide) k) ?_
  obtain ⟨x2, M1, hc4, hK3, h⟩ := h
  refine XL.up (pc' := 103) (st' := [zi x2]) (fun _ _ k => x_callVK (ci := 9) (as := [zi 97]) (st := []) hK k9_feed lmL_17 dXL_law_100 rfl (by decide) (zs8 rfl) h0.1 ⟨_, _, rfl⟩ hc4 k) ?_
  refine XL.br (tgt := 177) (pc' := 106) (x2 ≤ 0) (fun _ _ kt kf => x_if_le dXL_law_103 rfl kt kf) (fun c => ?_) (fun c => ?_)
  · have h := h.1 c
    refine XL.up (pc' := 178) (fun _ _ k => x_iconst dXL_law_177 (show inR 0 from ⟨by decide, by decide⟩) k) ?_
    exact h.elim
  · have h := h.2 c
    exact h
set_option maxHeartbeats 4000000 in
set_option maxRecDepth 20000 in
theorem BL_106 {q : Nat × (Nat → Int)} {d : Nat} {K M : ZMem} (l3 : Int) (l4 : Int) (l6 : Int) (l7 : Int) (l8 : Int) (hq : ∀ j, inR (q.2 j)) (hq1 : q.1 ≤ 260) (hK : KW K M) (h0 : TopAt K 2) (h5 : mS K 2230 = (1, 3)) (h : Ci d q9_feed [zr 2, zi 63] M (fun x2 M1 => KW K M1 ∧ ((x2 ≤ 0 → (False)) ∧ (¬ (x2 ≤ 0) → (XL q (d + 1) 115 [some (zr 1), some (zr 2), none, some (zi l3), some (zi l4), some (zr 2230), some (zi l6), some (zi l7), some (zi l8), none, none, none, none, none, none, none, none, none, none, none, none, none, none, none] [] M1))))) : XL q (d + 1) 106 [some (zr 1), some (zr 2), none, some (zi l3), some (zi l4), some (zr 2230), some (zi l6), some (zi l7), some (zi l8), none, none, none, none, none, none, none, none, none, none, none, none, none, none, none] [] M := by
  refine XL.up (pc' := 107) (fun _ _ k => x_aload_n dXL_law_106 rfl rfl k) ?_
  refine XL.up (pc' := 109) (fun _ _ k => x_bipush dXL_law_107 (show inR 63 from ⟨by decide, by decide⟩) (by decide) k) ?_
  obtain ⟨x2, M1, hc4, hK3, h⟩ := h
  refine XL.up (pc' := 112) (st' := [zi x2]) (fun _ _ k => x_callVK (ci := 9) (as := [zi 63]) (st := []) hK k9_feed lmL_17 dXL_law_109 rfl (by decide) (zs8 rfl) h0.1 ⟨_, _, rfl⟩ hc4 k) ?_
  refine XL.br (tgt := 177) (pc' := 115) (x2 ≤ 0) (fun _ _ kt kf => x_if_le dXL_law_112 rfl kt kf) (fun c => ?_) (fun c => ?_)
  · have h := h.1 c
    refine XL.up (pc' := 178) (fun _ _ k => x_iconst dXL_law_177 (show inR 0 from ⟨by decide, by decide⟩) k) ?_
    exact h.elim
  · have h := h.2 c
    exact h
set_option maxHeartbeats 4000000 in
set_option maxRecDepth 20000 in
theorem BL_115 {q : Nat × (Nat → Int)} {d : Nat} {K M : ZMem} (l3 : Int) (l4 : Int) (l6 : Int) (l7 : Int) (l8 : Int) (hq : ∀ j, inR (q.2 j)) (hq1 : q.1 ≤ 260) (hK : KW K M) (h0 : TopAt K 2) (h5 : mS K 2230 = (1, 3)) (h : Ci d qL_number [zr 2, zi l3] M (fun x2 M1 => KW K M1 ∧ ((x2 = 0 → (False)) ∧ (¬ (x2 = 0) → (XL q (d + 1) 123 [some (zr 1), some (zr 2), none, some (zi l3), some (zi l4), some (zr 2230), some (zi l6), some (zi l7), some (zi l8), none, none, none, none, none, none, none, none, none, none, none, none, none, none, none] [] M1))))) : XL q (d + 1) 115 [some (zr 1), some (zr 2), none, some (zi l3), some (zi l4), some (zr 2230), some (zi l6), some (zi l7), some (zi l8), none, none, none, none, none, none, none, none, none, none, none, none, none, none, none] [] M := by
  refine XL.up (pc' := 116) (fun _ _ k => x_aload_n dXL_law_115 rfl rfl k) ?_
  refine XL.up (pc' := 117) (fun _ _ k => x_iload_n dXL_law_116 rfl rfl k) ?_
  obtain ⟨x2, M1, hc4, hK3, h⟩ := h
  refine XL.up (pc' := 120) (st' := [zi x2]) (fun _ _ k => x_callS (as := [zr 2, zi l3]) (st := []) kL_number lmL_21 dXL_law_117 rfl (by decide) (zs8 rfl) hc4 k) ?_
  refine XL.br (tgt := 177) (pc' := 123) (x2 = 0) (fun _ _ kt kf => x_if_eq dXL_law_120 rfl kt kf) (fun c => ?_) (fun c => ?_)
  · have h := h.1 c
    refine XL.up (pc' := 178) (fun _ _ k => x_iconst dXL_law_177 (show inR 0 from ⟨by decide, by decide⟩) k) ?_
    exact h.elim
  · have h := h.2 c
    exact h
set_option maxHeartbeats 4000000 in
set_option maxRecDepth 20000 in
theorem BL_123 {q : Nat × (Nat → Int)} {d : Nat} {K M : ZMem} (l3 : Int) (l4 : Int) (l6 : Int) (l7 : Int) (l8 : Int) (hq : ∀ j, inR (q.2 j)) (hq1 : q.1 ≤ 260) (hK : KW K M) (h0 : TopAt K 2) (h5 : mS K 2230 = (1, 3)) (h : Ci d q9_feed [zr 2, zi 44] M (fun x2 M1 => KW K M1 ∧ ((x2 ≤ 0 → (False)) ∧ (¬ (x2 ≤ 0) → (XL q (d + 1) 132 [some (zr 1), some (zr 2), none, some (zi l3), some (zi l4), some (zr 2230), some (zi l6), some (zi l7), some (zi l8), none, none, none, none, none, none, none, none, none, none, none, none, none, none, none] [] M1))))) : XL q (d + 1) 123 [some (zr 1), some (zr 2), none, some (zi l3), some (zi l4), some (zr 2230), some (zi l6), some (zi l7), some (zi l8), none, none, none, none, none, none, none, none, none, none, none, none, none, none, none] [] M := by
  refine XL.up (pc' := 124) (fun _ _ k => x_aload_n dXL_law_123 rfl rfl k) ?_
  refine XL.up (pc' := 126) (fun _ _ k => x_bipush dXL_law_124 (show inR 44 from ⟨by decide, by decide⟩) (by decide) k) ?_
  obtain ⟨x2, M1, hc4, hK3, h⟩ := h
  refine XL.up (pc' := 129) (st' := [zi x2]) (fun _ _ k => x_callVK (ci := 9) (as := [zi 44]) (st := []) hK k9_feed lmL_17 dXL_law_126 rfl (by decide) (zs8 rfl) h0.1 ⟨_, _, rfl⟩ hc4 k) ?_
  refine XL.br (tgt := 177) (pc' := 132) (x2 ≤ 0) (fun _ _ kt kf => x_if_le dXL_law_129 rfl kt kf) (fun c => ?_) (fun c => ?_)
  · have h := h.1 c
    refine XL.up (pc' := 178) (fun _ _ k => x_iconst dXL_law_177 (show inR 0 from ⟨by decide, by decide⟩) k) ?_
    exact h.elim
  · have h := h.2 c
    exact h
set_option maxHeartbeats 4000000 in
set_option maxRecDepth 20000 in
theorem BL_132 {q : Nat × (Nat → Int)} {d : Nat} {K M : ZMem} (l3 : Int) (l4 : Int) (l6 : Int) (l7 : Int) (l8 : Int) (hq : ∀ j, inR (q.2 j)) (hq1 : q.1 ≤ 260) (hK : KW K M) (h0 : TopAt K 2) (h5 : mS K 2230 = (1, 3)) (h : Ci d qL_number [zr 2, zi l4] M (fun x2 M1 => KW K M1 ∧ ((x2 = 0 → (False)) ∧ (¬ (x2 = 0) → (XL q (d + 1) 141 [some (zr 1), some (zr 2), none, some (zi l3), some (zi l4), some (zr 2230), some (zi l6), some (zi l7), some (zi l8), none, none, none, none, none, none, none, none, none, none, none, none, none, none, none] [] M1))))) : XL q (d + 1) 132 [some (zr 1), some (zr 2), none, some (zi l3), some (zi l4), some (zr 2230), some (zi l6), some (zi l7), some (zi l8), none, none, none, none, none, none, none, none, none, none, none, none, none, none, none] [] M := by
  refine XL.up (pc' := 133) (fun _ _ k => x_aload_n dXL_law_132 rfl rfl k) ?_
  refine XL.up (pc' := 135) (fun _ _ k => x_iload dXL_law_133 rfl k) ?_
  obtain ⟨x2, M1, hc4, hK3, h⟩ := h
  refine XL.up (pc' := 138) (st' := [zi x2]) (fun _ _ k => x_callS (as := [zr 2, zi l4]) (st := []) kL_number lmL_21 dXL_law_135 rfl (by decide) (zs8 rfl) hc4 k) ?_
  refine XL.br (tgt := 177) (pc' := 141) (x2 = 0) (fun _ _ kt kf => x_if_eq dXL_law_138 rfl kt kf) (fun c => ?_) (fun c => ?_)
  · have h := h.1 c
    refine XL.up (pc' := 178) (fun _ _ k => x_iconst dXL_law_177 (show inR 0 from ⟨by decide, by decide⟩) k) ?_
    exact h.elim
  · have h := h.2 c
    exact h
set_option maxHeartbeats 4000000 in
set_option maxRecDepth 20000 in
theorem BL_141 {q : Nat × (Nat → Int)} {d : Nat} {K M : ZMem} (l3 : Int) (l4 : Int) (l6 : Int) (l7 : Int) (l8 : Int) (hq : ∀ j, inR (q.2 j)) (hq1 : q.1 ≤ 260) (hK : KW K M) (h0 : TopAt K 2) (h5 : mS K 2230 = (1, 3)) (h : Ci d q9_feed [zr 2, zi 59] M (fun x2 M1 => KW K M1 ∧ ((x2 ≤ 0 → (False)) ∧ (¬ (x2 ≤ 0) → (XL q (d + 1) 150 [some (zr 1), some (zr 2), none, some (zi l3), some (zi l4), some (zr 2230), some (zi l6), some (zi l7), some (zi l8), none, none, none, none, none, none, none, none, none, none, none, none, none, none, none] [] M1))))) : XL q (d + 1) 141 [some (zr 1), some (zr 2), none, some (zi l3), some (zi l4), some (zr 2230), some (zi l6), some (zi l7), some (zi l8), none, none, none, none, none, none, none, none, none, none, none, none, none, none, none] [] M := by
  refine XL.up (pc' := 142) (fun _ _ k => x_aload_n dXL_law_141 rfl rfl k) ?_
  refine XL.up (pc' := 144) (fun _ _ k => x_bipush dXL_law_142 (show inR 59 from ⟨by decide, by decide⟩) (by decide) k) ?_
  obtain ⟨x2, M1, hc4, hK3, h⟩ := h
  refine XL.up (pc' := 147) (st' := [zi x2]) (fun _ _ k => x_callVK (ci := 9) (as := [zi 59]) (st := []) hK k9_feed lmL_17 dXL_law_144 rfl (by decide) (zs8 rfl) h0.1 ⟨_, _, rfl⟩ hc4 k) ?_
  refine XL.br (tgt := 177) (pc' := 150) (x2 ≤ 0) (fun _ _ kt kf => x_if_le dXL_law_147 rfl kt kf) (fun c => ?_) (fun c => ?_)
  · have h := h.1 c
    refine XL.up (pc' := 178) (fun _ _ k => x_iconst dXL_law_177 (show inR 0 from ⟨by decide, by decide⟩) k) ?_
    exact h.elim
  · have h := h.2 c
    exact h
set_option maxHeartbeats 4000000 in
set_option maxRecDepth 20000 in
theorem BL_150 {q : Nat × (Nat → Int)} {d : Nat} {K M : ZMem} (l3 : Int) (l4 : Int) (l6 : Int) (l7 : Int) (l8 : Int) (hq : ∀ j, inR (q.2 j)) (hq1 : q.1 ≤ 260) (hK : KW K M) (h0 : TopAt K 2) (h5 : mS K 2230 = (1, 3)) (h : Ci d q9_feed [zr 2, zi 98] M (fun x2 M1 => KW K M1 ∧ ((x2 ≤ 0 → (False)) ∧ (¬ (x2 ≤ 0) → (XL q (d + 1) 159 [some (zr 1), some (zr 2), none, some (zi l3), some (zi l4), some (zr 2230), some (zi l6), some (zi l7), some (zi l8), none, none, none, none, none, none, none, none, none, none, none, none, none, none, none] [] M1))))) : XL q (d + 1) 150 [some (zr 1), some (zr 2), none, some (zi l3), some (zi l4), some (zr 2230), some (zi l6), some (zi l7), some (zi l8), none, none, none, none, none, none, none, none, none, none, none, none, none, none, none] [] M := by
  refine XL.up (pc' := 151) (fun _ _ k => x_aload_n dXL_law_150 rfl rfl k) ?_
  refine XL.up (pc' := 153) (fun _ _ k => x_bipush dXL_law_151 (show inR 98 from ⟨by decide, by decide⟩) (by decide) k) ?_
  obtain ⟨x2, M1, hc4, hK3, h⟩ := h
  refine XL.up (pc' := 156) (st' := [zi x2]) (fun _ _ k => x_callVK (ci := 9) (as := [zi 98]) (st := []) hK k9_feed lmL_17 dXL_law_153 rfl (by decide) (zs8 rfl) h0.1 ⟨_, _, rfl⟩ hc4 k) ?_
  refine XL.br (tgt := 177) (pc' := 159) (x2 ≤ 0) (fun _ _ kt kf => x_if_le dXL_law_156 rfl kt kf) (fun c => ?_) (fun c => ?_)
  · have h := h.1 c
    refine XL.up (pc' := 178) (fun _ _ k => x_iconst dXL_law_177 (show inR 0 from ⟨by decide, by decide⟩) k) ?_
    exact h.elim
  · have h := h.2 c
    exact h
set_option maxHeartbeats 4000000 in
set_option maxRecDepth 20000 in
theorem BL_159 {q : Nat × (Nat → Int)} {d : Nat} {K M : ZMem} (l3 : Int) (l4 : Int) (l6 : Int) (l7 : Int) (l8 : Int) (hq : ∀ j, inR (q.2 j)) (hq1 : q.1 ≤ 260) (hK : KW K M) (h0 : TopAt K 2) (h5 : mS K 2230 = (1, 3)) (h : Ci d q9_feed [zr 2, zi 63] M (fun x2 M1 => KW K M1 ∧ ((x2 ≤ 0 → (False)) ∧ (¬ (x2 ≤ 0) → (XL q (d + 1) 168 [some (zr 1), some (zr 2), none, some (zi l3), some (zi l4), some (zr 2230), some (zi l6), some (zi l7), some (zi l8), none, none, none, none, none, none, none, none, none, none, none, none, none, none, none] [] M1))))) : XL q (d + 1) 159 [some (zr 1), some (zr 2), none, some (zi l3), some (zi l4), some (zr 2230), some (zi l6), some (zi l7), some (zi l8), none, none, none, none, none, none, none, none, none, none, none, none, none, none, none] [] M := by
  refine XL.up (pc' := 160) (fun _ _ k => x_aload_n dXL_law_159 rfl rfl k) ?_
  refine XL.up (pc' := 162) (fun _ _ k => x_bipush dXL_law_160 (show inR 63 from ⟨by decide, by decide⟩) (by decide) k) ?_
  obtain ⟨x2, M1, hc4, hK3, h⟩ := h
  refine XL.up (pc' := 165) (st' := [zi x2]) (fun _ _ k => x_callVK (ci := 9) (as := [zi 63]) (st := []) hK k9_feed lmL_17 dXL_law_162 rfl (by decide) (zs8 rfl) h0.1 ⟨_, _, rfl⟩ hc4 k) ?_
  refine XL.br (tgt := 177) (pc' := 168) (x2 ≤ 0) (fun _ _ kt kf => x_if_le dXL_law_165 rfl kt kf) (fun c => ?_) (fun c => ?_)
  · have h := h.1 c
    refine XL.up (pc' := 178) (fun _ _ k => x_iconst dXL_law_177 (show inR 0 from ⟨by decide, by decide⟩) k) ?_
    exact h.elim
  · have h := h.2 c
    exact h
set_option maxHeartbeats 4000000 in
set_option maxRecDepth 20000 in
theorem BL_168 {q : Nat × (Nat → Int)} {d : Nat} {K M : ZMem} (l3 : Int) (l4 : Int) (l6 : Int) (l7 : Int) (l8 : Int) (hq : ∀ j, inR (q.2 j)) (hq1 : q.1 ≤ 260) (hK : KW K M) (h0 : TopAt K 2) (h5 : mS K 2230 = (1, 3)) (h : Ci d q9_feed [zr 2, zi 123] M (fun x2 M1 => KW K M1 ∧ ((0 < x2 → (XL q (d + 1) 179 [some (zr 1), some (zr 2), none, some (zi l3), some (zi l4), some (zr 2230), some (zi l6), some (zi l7), some (zi l8), none, none, none, none, none, none, none, none, none, none, none, none, none, none, none] [] M1)) ∧ (¬ (0 < x2) → (False))))) : XL q (d + 1) 168 [some (zr 1), some (zr 2), none, some (zi l3), some (zi l4), some (zr 2230), some (zi l6), some (zi l7), some (zi l8), none, none, none, none, none, none, none, none, none, none, none, none, none, none, none] [] M := by
  refine XL.up (pc' := 169) (fun _ _ k => x_aload_n dXL_law_168 rfl rfl k) ?_
  refine XL.up (pc' := 171) (fun _ _ k => x_bipush dXL_law_169 (show inR 123 from ⟨by decide, by decide⟩) (by decide) k) ?_
  obtain ⟨x2, M1, hc4, hK3, h⟩ := h
  refine XL.up (pc' := 174) (st' := [zi x2]) (fun _ _ k => x_callVK (ci := 9) (as := [zi 123]) (st := []) hK k9_feed lmL_17 dXL_law_171 rfl (by decide) (zs8 rfl) h0.1 ⟨_, _, rfl⟩ hc4 k) ?_
  refine XL.br (tgt := 179) (pc' := 177) (0 < x2) (fun _ _ kt kf => x_if_gt dXL_law_174 rfl kt kf) (fun c => ?_) (fun c => ?_)
  · have h := h.1 c
    exact h
  · have h := h.2 c
    refine XL.up (pc' := 178) (fun _ _ k => x_iconst dXL_law_177 (show inR 0 from ⟨by decide, by decide⟩) k) ?_
    exact h.elim
set_option maxHeartbeats 4000000 in
set_option maxRecDepth 20000 in
theorem BL_179 {q : Nat × (Nat → Int)} {d : Nat} {K M : ZMem} (l3 : Int) (l4 : Int) (l6 : Int) (l7 : Int) (l8 : Int) (hq : ∀ j, inR (q.2 j)) (hq1 : q.1 ≤ 260) (hK : KW K M) (h0 : TopAt K 2) (h5 : mS K 2230 = (1, 3)) (h : XL q (d + 1) 182 [some (zr 1), some (zr 2), none, some (zi l3), some (zi l4), some (zr 2230), some (zi l6), some (zi l7), some (zi l8), some (zi 0), none, none, none, none, none, none, none, none, none, none, none, none, none, none] [] M) : XL q (d + 1) 179 [some (zr 1), some (zr 2), none, some (zi l3), some (zi l4), some (zr 2230), some (zi l6), some (zi l7), some (zi l8), none, none, none, none, none, none, none, none, none, none, none, none, none, none, none] [] M := by
  refine XL.up (pc' := 180) (fun _ _ k => x_iconst dXL_law_179 (show inR 0 from ⟨by decide, by decide⟩) k) ?_
  refine XL.up (pc' := 182) (L' := [some (zr 1), some (zr 2), none, some (zi l3), some (zi l4), some (zr 2230), some (zi l6), some (zi l7), some (zi l8), some (zi 0), none, none, none, none, none, none, none, none, none, none, none, none, none, none]) (fun _ _ k => x_istore dXL_law_180 (by decide) rfl k) ?_
  exact h
set_option maxHeartbeats 4000000 in
set_option maxRecDepth 20000 in
theorem BL_182 {q : Nat × (Nat → Int)} {d : Nat} {K M : ZMem} (l3 : Int) (l4 : Int) (l6 : Int) (l7 : Int) (l8 : Int) (l9 : Int) (hq : ∀ j, inR (q.2 j)) (hq1 : q.1 ≤ 260) (hK : KW K M) (h0 : TopAt K 2) (h5 : mS K 2230 = (1, 3)) (h : ((3 ≤ l9 → (XL q (d + 1) 224 [some (zr 1), some (zr 2), none, some (zi l3), some (zi l4), some (zr 2230), some (zi l6), some (zi l7), some (zi l8), none, none, none, none, none, none, none, none, none, none, none, none, none, none, none] [] M)) ∧ (¬ (3 ≤ l9) → ((0 ≤ l9) ∧ (l9 < 3) ∧ Ci d qL_number [zr 2, zi (mI M 2230 l9.toNat)] M (fun x4 M3 => KW K M3 ∧ ((x4 = 0 → (False)) ∧ (¬ (x4 = 0) → (XL q (d + 1) 200 [some (zr 1), some (zr 2), none, some (zi l3), some (zi l4), some (zr 2230), some (zi l6), some (zi l7), some (zi l8), some (zi l9), none, none, none, none, none, none, none, none, none, none, none, none, none, none] [] M3)))))))) : XL q (d + 1) 182 [some (zr 1), some (zr 2), none, some (zi l3), some (zi l4), some (zr 2230), some (zi l6), some (zi l7), some (zi l8), some (zi l9), none, none, none, none, none, none, none, none, none, none, none, none, none, none] [] M := by
  refine XL.up (pc' := 184) (fun _ _ k => x_iload dXL_law_182 rfl k) ?_
  refine XL.up (pc' := 185) (fun _ _ k => x_iconst dXL_law_184 (show inR 3 from ⟨by decide, by decide⟩) k) ?_
  refine XL.br (tgt := 224) (pc' := 188) (3 ≤ l9) (fun _ _ kt kf => x_icmp_ge dXL_law_185 rfl kt kf) (fun c => ?_) (fun c => ?_)
  · have h := h.1 c
    exact XL.less (L' := [some (zr 1), some (zr 2), none, some (zi l3), some (zi l4), some (zr 2230), some (zi l6), some (zi l7), some (zi l8), none, none, none, none, none, none, none, none, none, none, none, none, none, none, none]) (⟨rfl, ⟨rfl, ⟨rfl, ⟨rfl, ⟨rfl, ⟨rfl, ⟨rfl, ⟨rfl, trivial⟩⟩⟩⟩⟩⟩⟩⟩) h
  · have h := h.2 c
    refine XL.up (pc' := 189) (fun _ _ k => x_aload_n dXL_law_188 rfl rfl k) ?_
    refine XL.up (pc' := 191) (fun _ _ k => x_aload dXL_law_189 rfl k) ?_
    refine XL.up (pc' := 193) (fun _ _ k => x_iload dXL_law_191 rfl k) ?_
    obtain ⟨g1, h⟩ := h
    obtain ⟨g2, h⟩ := h
    refine XL.up (pc' := 194) (fun _ _ k => x_ialoadK hK dXL_law_193 h5 g1 g2 k) ?_
    obtain ⟨x4, M3, hc6, hK5, h⟩ := h
    refine XL.up (pc' := 197) (st' := [zi x4]) (fun _ _ k => x_callS (as := [zr 2, zi (mI M 2230 l9.toNat)]) (st := []) kL_number lmL_21 dXL_law_194 rfl (by decide) (zs8 rfl) hc6 k) ?_
    refine XL.br (tgt := 216) (pc' := 200) (x4 = 0) (fun _ _ kt kf => x_if_eq dXL_law_197 rfl kt kf) (fun c => ?_) (fun c => ?_)
    · have h := h.1 c
      refine XL.up (pc' := 217) (fun _ _ k => x_iconst dXL_law_216 (show inR 0 from ⟨by decide, by decide⟩) k) ?_
      exact h.elim
    · have h := h.2 c
      exact h
set_option maxHeartbeats 4000000 in
set_option maxRecDepth 20000 in
theorem BL_200 {q : Nat × (Nat → Int)} {d : Nat} {K M : ZMem} (l3 : Int) (l4 : Int) (l6 : Int) (l7 : Int) (l8 : Int) (l9 : Int) (hq : ∀ j, inR (q.2 j)) (hq1 : q.1 ≤ 260) (hK : KW K M) (h0 : TopAt K 2) (h5 : mS K 2230 = (1, 3)) (h : ((2 ≤ l9 → ((inR (l9 + 1)) ∧ XL q (d + 1) 182 [some (zr 1), some (zr 2), none, some (zi l3), some (zi l4), some (zr 2230), some (zi l6), some (zi l7), some (zi l8), some (zi (l9 + 1)), none, none, none, none, none, none, none, none, none, none, none, none, none, none] [] M)) ∧ (¬ (2 ≤ l9) → (Ci d q9_feed [zr 2, zi 44] M (fun x3 M2 => KW K M2 ∧ ((1 ≤ x3 → ((inR (l9 + 1)) ∧ XL q (d + 1) 182 [some (zr 1), some (zr 2), none, some (zi l3), some (zi l4), some (zr 2230), some (zi l6), some (zi l7), some (zi l8), some (zi (l9 + 1)), none, none, none, none, none, none, none, none, none, none, none, none, none, none] [] M2)) ∧ (¬ (1 ≤ x3) → (False)))))))) : XL q (d + 1) 200 [some (zr 1), some (zr 2), none, some (zi l3), some (zi l4), some (zr 2230), some (zi l6), some (zi l7), some (zi l8), some (zi l9), none, none, none, none, none, none, none, none, none, none, none, none, none, none] [] M := by
  refine XL.up (pc' := 202) (fun _ _ k => x_iload dXL_law_200 rfl k) ?_
  refine XL.up (pc' := 203) (fun _ _ k => x_iconst dXL_law_202 (show inR 2 from ⟨by decide, by decide⟩) k) ?_
  refine XL.br (tgt := 218) (pc' := 206) (2 ≤ l9) (fun _ _ kt kf => x_icmp_ge dXL_law_203 rfl kt kf) (fun c => ?_) (fun c => ?_)
  · have h := h.1 c
    obtain ⟨g1, h⟩ := h
    refine XL.up (pc' := 221) (L' := [some (zr 1), some (zr 2), none, some (zi l3), some (zi l4), some (zr 2230), some (zi l6), some (zi l7), some (zi l8), some (zi (l9 + 1)), none, none, none, none, none, none, none, none, none, none, none, none, none, none]) (fun _ _ k => x_iinc dXL_law_218 rfl g1 (by decide) rfl k) ?_
    refine XL.up (pc' := 182) (fun _ _ k => x_goto dXL_law_221 rfl k) ?_
    exact h
  · have h := h.2 c
    refine XL.up (pc' := 207) (fun _ _ k => x_aload_n dXL_law_206 rfl rfl k) ?_
    refine XL.up (pc' := 209) (fun _ _ k => x_bipush dXL_law_207 (show inR 44 from ⟨by decide, by decide⟩) (by decide) k) ?_
    obtain ⟨x3, M2, hc5, hK4, h⟩ := h
    refine XL.up (pc' := 212) (st' := [zi x3]) (fun _ _ k => x_callVK (ci := 9) (as := [zi 44]) (st := []) hK k9_feed lmL_17 dXL_law_209 rfl (by decide) (zs8 rfl) h0.1 ⟨_, _, rfl⟩ hc5 k) ?_
    refine XL.up (pc' := 213) (fun _ _ k => x_iconst dXL_law_212 (show inR 1 from ⟨by decide, by decide⟩) k) ?_
    refine XL.br (tgt := 218) (pc' := 216) (1 ≤ x3) (fun _ _ kt kf => x_icmp_ge dXL_law_213 rfl kt kf) (fun c => ?_) (fun c => ?_)
    · have h := h.1 c
      obtain ⟨g6, h⟩ := h
      refine XL.up (pc' := 221) (L' := [some (zr 1), some (zr 2), none, some (zi l3), some (zi l4), some (zr 2230), some (zi l6), some (zi l7), some (zi l8), some (zi (l9 + 1)), none, none, none, none, none, none, none, none, none, none, none, none, none, none]) (fun _ _ k => x_iinc dXL_law_218 rfl g6 (by decide) rfl k) ?_
      refine XL.up (pc' := 182) (fun _ _ k => x_goto dXL_law_221 rfl k) ?_
      exact h
    · have h := h.2 c
      refine XL.up (pc' := 217) (fun _ _ k => x_iconst dXL_law_216 (show inR 0 from ⟨by decide, by decide⟩) k) ?_
      exact h.elim
set_option maxHeartbeats 4000000 in
set_option maxRecDepth 20000 in
theorem BL_224 {q : Nat × (Nat → Int)} {d : Nat} {K M : ZMem} (l3 : Int) (l4 : Int) (l6 : Int) (l7 : Int) (l8 : Int) (hq : ∀ j, inR (q.2 j)) (hq1 : q.1 ≤ 260) (hK : KW K M) (h0 : TopAt K 2) (h5 : mS K 2230 = (1, 3)) (h : Ci d q9_feed [zr 2, zi 125] M (fun x2 M1 => KW K M1 ∧ ((x2 ≤ 0 → (False)) ∧ (¬ (x2 ≤ 0) → (XL q (d + 1) 233 [some (zr 1), some (zr 2), none, some (zi l3), some (zi l4), some (zr 2230), some (zi l6), some (zi l7), some (zi l8), none, none, none, none, none, none, none, none, none, none, none, none, none, none, none] [] M1))))) : XL q (d + 1) 224 [some (zr 1), some (zr 2), none, some (zi l3), some (zi l4), some (zr 2230), some (zi l6), some (zi l7), some (zi l8), none, none, none, none, none, none, none, none, none, none, none, none, none, none, none] [] M := by
  refine XL.up (pc' := 225) (fun _ _ k => x_aload_n dXL_law_224 rfl rfl k) ?_
  refine XL.up (pc' := 227) (fun _ _ k => x_bipush dXL_law_225 (show inR 125 from ⟨by decide, by decide⟩) (by decide) k) ?_
  obtain ⟨x2, M1, hc4, hK3, h⟩ := h
  refine XL.up (pc' := 230) (st' := [zi x2]) (fun _ _ k => x_callVK (ci := 9) (as := [zi 125]) (st := []) hK k9_feed lmL_17 dXL_law_227 rfl (by decide) (zs8 rfl) h0.1 ⟨_, _, rfl⟩ hc4 k) ?_
  refine XL.br (tgt := 427) (pc' := 233) (x2 ≤ 0) (fun _ _ kt kf => x_if_le dXL_law_230 rfl kt kf) (fun c => ?_) (fun c => ?_)
  · have h := h.1 c
    refine XL.up (pc' := 428) (fun _ _ k => x_iconst dXL_law_427 (show inR 0 from ⟨by decide, by decide⟩) k) ?_
    exact h.elim
  · have h := h.2 c
    exact h
set_option maxHeartbeats 4000000 in
set_option maxRecDepth 20000 in
theorem BL_233 {q : Nat × (Nat → Int)} {d : Nat} {K M : ZMem} (l3 : Int) (l4 : Int) (l6 : Int) (l7 : Int) (l8 : Int) (hq : ∀ j, inR (q.2 j)) (hq1 : q.1 ≤ 260) (hK : KW K M) (h0 : TopAt K 2) (h5 : mS K 2230 = (1, 3)) (h : Ci d q9_feed [zr 2, zi 59] M (fun x2 M1 => KW K M1 ∧ ((x2 ≤ 0 → (False)) ∧ (¬ (x2 ≤ 0) → (XL q (d + 1) 242 [some (zr 1), some (zr 2), none, some (zi l3), some (zi l4), some (zr 2230), some (zi l6), some (zi l7), some (zi l8), none, none, none, none, none, none, none, none, none, none, none, none, none, none, none] [] M1))))) : XL q (d + 1) 233 [some (zr 1), some (zr 2), none, some (zi l3), some (zi l4), some (zr 2230), some (zi l6), some (zi l7), some (zi l8), none, none, none, none, none, none, none, none, none, none, none, none, none, none, none] [] M := by
  refine XL.up (pc' := 234) (fun _ _ k => x_aload_n dXL_law_233 rfl rfl k) ?_
  refine XL.up (pc' := 236) (fun _ _ k => x_bipush dXL_law_234 (show inR 59 from ⟨by decide, by decide⟩) (by decide) k) ?_
  obtain ⟨x2, M1, hc4, hK3, h⟩ := h
  refine XL.up (pc' := 239) (st' := [zi x2]) (fun _ _ k => x_callVK (ci := 9) (as := [zi 59]) (st := []) hK k9_feed lmL_17 dXL_law_236 rfl (by decide) (zs8 rfl) h0.1 ⟨_, _, rfl⟩ hc4 k) ?_
  refine XL.br (tgt := 427) (pc' := 242) (x2 ≤ 0) (fun _ _ kt kf => x_if_le dXL_law_239 rfl kt kf) (fun c => ?_) (fun c => ?_)
  · have h := h.1 c
    refine XL.up (pc' := 428) (fun _ _ k => x_iconst dXL_law_427 (show inR 0 from ⟨by decide, by decide⟩) k) ?_
    exact h.elim
  · have h := h.2 c
    exact h
set_option maxHeartbeats 4000000 in
set_option maxRecDepth 20000 in
theorem BL_242 {q : Nat × (Nat → Int)} {d : Nat} {K M : ZMem} (l3 : Int) (l4 : Int) (l6 : Int) (l7 : Int) (l8 : Int) (hq : ∀ j, inR (q.2 j)) (hq1 : q.1 ≤ 260) (hK : KW K M) (h0 : TopAt K 2) (h5 : mS K 2230 = (1, 3)) (h : Ci d q9_feed [zr 2, zi 99] M (fun x2 M1 => KW K M1 ∧ ((x2 ≤ 0 → (False)) ∧ (¬ (x2 ≤ 0) → (XL q (d + 1) 251 [some (zr 1), some (zr 2), none, some (zi l3), some (zi l4), some (zr 2230), some (zi l6), some (zi l7), some (zi l8), none, none, none, none, none, none, none, none, none, none, none, none, none, none, none] [] M1))))) : XL q (d + 1) 242 [some (zr 1), some (zr 2), none, some (zi l3), some (zi l4), some (zr 2230), some (zi l6), some (zi l7), some (zi l8), none, none, none, none, none, none, none, none, none, none, none, none, none, none, none] [] M := by
  refine XL.up (pc' := 243) (fun _ _ k => x_aload_n dXL_law_242 rfl rfl k) ?_
  refine XL.up (pc' := 245) (fun _ _ k => x_bipush dXL_law_243 (show inR 99 from ⟨by decide, by decide⟩) (by decide) k) ?_
  obtain ⟨x2, M1, hc4, hK3, h⟩ := h
  refine XL.up (pc' := 248) (st' := [zi x2]) (fun _ _ k => x_callVK (ci := 9) (as := [zi 99]) (st := []) hK k9_feed lmL_17 dXL_law_245 rfl (by decide) (zs8 rfl) h0.1 ⟨_, _, rfl⟩ hc4 k) ?_
  refine XL.br (tgt := 427) (pc' := 251) (x2 ≤ 0) (fun _ _ kt kf => x_if_le dXL_law_248 rfl kt kf) (fun c => ?_) (fun c => ?_)
  · have h := h.1 c
    refine XL.up (pc' := 428) (fun _ _ k => x_iconst dXL_law_427 (show inR 0 from ⟨by decide, by decide⟩) k) ?_
    exact h.elim
  · have h := h.2 c
    exact h
set_option maxHeartbeats 4000000 in
set_option maxRecDepth 20000 in
theorem BL_251 {q : Nat × (Nat → Int)} {d : Nat} {K M : ZMem} (l3 : Int) (l4 : Int) (l6 : Int) (l7 : Int) (l8 : Int) (hq : ∀ j, inR (q.2 j)) (hq1 : q.1 ≤ 260) (hK : KW K M) (h0 : TopAt K 2) (h5 : mS K 2230 = (1, 3)) (h : Ci d q9_feed [zr 2, zi 63] M (fun x2 M1 => KW K M1 ∧ ((x2 ≤ 0 → (False)) ∧ (¬ (x2 ≤ 0) → (XL q (d + 1) 260 [some (zr 1), some (zr 2), none, some (zi l3), some (zi l4), some (zr 2230), some (zi l6), some (zi l7), some (zi l8), none, none, none, none, none, none, none, none, none, none, none, none, none, none, none] [] M1))))) : XL q (d + 1) 251 [some (zr 1), some (zr 2), none, some (zi l3), some (zi l4), some (zr 2230), some (zi l6), some (zi l7), some (zi l8), none, none, none, none, none, none, none, none, none, none, none, none, none, none, none] [] M := by
  refine XL.up (pc' := 252) (fun _ _ k => x_aload_n dXL_law_251 rfl rfl k) ?_
  refine XL.up (pc' := 254) (fun _ _ k => x_bipush dXL_law_252 (show inR 63 from ⟨by decide, by decide⟩) (by decide) k) ?_
  obtain ⟨x2, M1, hc4, hK3, h⟩ := h
  refine XL.up (pc' := 257) (st' := [zi x2]) (fun _ _ k => x_callVK (ci := 9) (as := [zi 63]) (st := []) hK k9_feed lmL_17 dXL_law_254 rfl (by decide) (zs8 rfl) h0.1 ⟨_, _, rfl⟩ hc4 k) ?_
  refine XL.br (tgt := 427) (pc' := 260) (x2 ≤ 0) (fun _ _ kt kf => x_if_le dXL_law_257 rfl kt kf) (fun c => ?_) (fun c => ?_)
  · have h := h.1 c
    refine XL.up (pc' := 428) (fun _ _ k => x_iconst dXL_law_427 (show inR 0 from ⟨by decide, by decide⟩) k) ?_
    exact h.elim
  · have h := h.2 c
    exact h
set_option maxHeartbeats 4000000 in
set_option maxRecDepth 20000 in
theorem BL_260 {q : Nat × (Nat → Int)} {d : Nat} {K M : ZMem} (l3 : Int) (l4 : Int) (l6 : Int) (l7 : Int) (l8 : Int) (hq : ∀ j, inR (q.2 j)) (hq1 : q.1 ≤ 260) (hK : KW K M) (h0 : TopAt K 2) (h5 : mS K 2230 = (1, 3)) (h : Ci d q9_feed [zr 2, zi 45] M (fun x2 M1 => KW K M1 ∧ ((x2 ≤ 0 → (False)) ∧ (¬ (x2 ≤ 0) → (XL q (d + 1) 269 [some (zr 1), some (zr 2), none, some (zi l3), some (zi l4), some (zr 2230), some (zi l6), some (zi l7), some (zi l8), none, none, none, none, none, none, none, none, none, none, none, none, none, none, none] [] M1))))) : XL q (d + 1) 260 [some (zr 1), some (zr 2), none, some (zi l3), some (zi l4), some (zr 2230), some (zi l6), some (zi l7), some (zi l8), none, none, none, none, none, none, none, none, none, none, none, none, none, none, none] [] M := by
  refine XL.up (pc' := 261) (fun _ _ k => x_aload_n dXL_law_260 rfl rfl k) ?_
  refine XL.up (pc' := 263) (fun _ _ k => x_bipush dXL_law_261 (show inR 45 from ⟨by decide, by decide⟩) (by decide) k) ?_
  obtain ⟨x2, M1, hc4, hK3, h⟩ := h
  refine XL.up (pc' := 266) (st' := [zi x2]) (fun _ _ k => x_callVK (ci := 9) (as := [zi 45]) (st := []) hK k9_feed lmL_17 dXL_law_263 rfl (by decide) (zs8 rfl) h0.1 ⟨_, _, rfl⟩ hc4 k) ?_
  refine XL.br (tgt := 427) (pc' := 269) (x2 ≤ 0) (fun _ _ kt kf => x_if_le dXL_law_266 rfl kt kf) (fun c => ?_) (fun c => ?_)
  · have h := h.1 c
    refine XL.up (pc' := 428) (fun _ _ k => x_iconst dXL_law_427 (show inR 0 from ⟨by decide, by decide⟩) k) ?_
    exact h.elim
  · have h := h.2 c
    exact h
set_option maxHeartbeats 4000000 in
set_option maxRecDepth 20000 in
theorem BL_269 {q : Nat × (Nat → Int)} {d : Nat} {K M : ZMem} (l3 : Int) (l4 : Int) (l6 : Int) (l7 : Int) (l8 : Int) (hq : ∀ j, inR (q.2 j)) (hq1 : q.1 ≤ 260) (hK : KW K M) (h0 : TopAt K 2) (h5 : mS K 2230 = (1, 3)) (h : Ci d q9_feed [zr 2, zi 50] M (fun x2 M1 => KW K M1 ∧ ((x2 ≤ 0 → (False)) ∧ (¬ (x2 ≤ 0) → (XL q (d + 1) 278 [some (zr 1), some (zr 2), none, some (zi l3), some (zi l4), some (zr 2230), some (zi l6), some (zi l7), some (zi l8), none, none, none, none, none, none, none, none, none, none, none, none, none, none, none] [] M1))))) : XL q (d + 1) 269 [some (zr 1), some (zr 2), none, some (zi l3), some (zi l4), some (zr 2230), some (zi l6), some (zi l7), some (zi l8), none, none, none, none, none, none, none, none, none, none, none, none, none, none, none] [] M := by
  refine XL.up (pc' := 270) (fun _ _ k => x_aload_n dXL_law_269 rfl rfl k) ?_
  refine XL.up (pc' := 272) (fun _ _ k => x_bipush dXL_law_270 (show inR 50 from ⟨by decide, by decide⟩) (by decide) k) ?_
  obtain ⟨x2, M1, hc4, hK3, h⟩ := h
  refine XL.up (pc' := 275) (st' := [zi x2]) (fun _ _ k => x_callVK (ci := 9) (as := [zi 50]) (st := []) hK k9_feed lmL_17 dXL_law_272 rfl (by decide) (zs8 rfl) h0.1 ⟨_, _, rfl⟩ hc4 k) ?_
  refine XL.br (tgt := 427) (pc' := 278) (x2 ≤ 0) (fun _ _ kt kf => x_if_le dXL_law_275 rfl kt kf) (fun c => ?_) (fun c => ?_)
  · have h := h.1 c
    refine XL.up (pc' := 428) (fun _ _ k => x_iconst dXL_law_427 (show inR 0 from ⟨by decide, by decide⟩) k) ?_
    exact h.elim
  · have h := h.2 c
    exact h
set_option maxHeartbeats 4000000 in
set_option maxRecDepth 20000 in
theorem BL_278 {q : Nat × (Nat → Int)} {d : Nat} {K M : ZMem} (l3 : Int) (l4 : Int) (l6 : Int) (l7 : Int) (l8 : Int) (hq : ∀ j, inR (q.2 j)) (hq1 : q.1 ≤ 260) (hK : KW K M) (h0 : TopAt K 2) (h5 : mS K 2230 = (1, 3)) (h : Ci d q9_feed [zr 2, zi 44] M (fun x2 M1 => KW K M1 ∧ ((x2 ≤ 0 → (False)) ∧ (¬ (x2 ≤ 0) → (XL q (d + 1) 287 [some (zr 1), some (zr 2), none, some (zi l3), some (zi l4), some (zr 2230), some (zi l6), some (zi l7), some (zi l8), none, none, none, none, none, none, none, none, none, none, none, none, none, none, none] [] M1))))) : XL q (d + 1) 278 [some (zr 1), some (zr 2), none, some (zi l3), some (zi l4), some (zr 2230), some (zi l6), some (zi l7), some (zi l8), none, none, none, none, none, none, none, none, none, none, none, none, none, none, none] [] M := by
  refine XL.up (pc' := 279) (fun _ _ k => x_aload_n dXL_law_278 rfl rfl k) ?_
  refine XL.up (pc' := 281) (fun _ _ k => x_bipush dXL_law_279 (show inR 44 from ⟨by decide, by decide⟩) (by decide) k) ?_
  obtain ⟨x2, M1, hc4, hK3, h⟩ := h
  refine XL.up (pc' := 284) (st' := [zi x2]) (fun _ _ k => x_callVK (ci := 9) (as := [zi 44]) (st := []) hK k9_feed lmL_17 dXL_law_281 rfl (by decide) (zs8 rfl) h0.1 ⟨_, _, rfl⟩ hc4 k) ?_
  refine XL.br (tgt := 427) (pc' := 287) (x2 ≤ 0) (fun _ _ kt kf => x_if_le dXL_law_284 rfl kt kf) (fun c => ?_) (fun c => ?_)
  · have h := h.1 c
    refine XL.up (pc' := 428) (fun _ _ k => x_iconst dXL_law_427 (show inR 0 from ⟨by decide, by decide⟩) k) ?_
    exact h.elim
  · have h := h.2 c
    exact h
set_option maxHeartbeats 4000000 in
set_option maxRecDepth 20000 in
theorem BL_287 {q : Nat × (Nat → Int)} {d : Nat} {K M : ZMem} (l3 : Int) (l4 : Int) (l6 : Int) (l7 : Int) (l8 : Int) (hq : ∀ j, inR (q.2 j)) (hq1 : q.1 ≤ 260) (hK : KW K M) (h0 : TopAt K 2) (h5 : mS K 2230 = (1, 3)) (h : Ci d q9_feed [zr 2, zi 97] M (fun x2 M1 => KW K M1 ∧ ((x2 ≤ 0 → (False)) ∧ (¬ (x2 ≤ 0) → (XL q (d + 1) 296 [some (zr 1), some (zr 2), none, some (zi l3), some (zi l4), some (zr 2230), some (zi l6), some (zi l7), some (zi l8), none, none, none, none, none, none, none, none, none, none, none, none, none, none, none] [] M1))))) : XL q (d + 1) 287 [some (zr 1), some (zr 2), none, some (zi l3), some (zi l4), some (zr 2230), some (zi l6), some (zi l7), some (zi l8), none, none, none, none, none, none, none, none, none, none, none, none, none, none, none] [] M := by
  refine XL.up (pc' := 288) (fun _ _ k => x_aload_n dXL_law_287 rfl rfl k) ?_
  refine XL.up (pc' := 290) (fun _ _ k => x_bipush dXL_law_288 (show inR 97 from ⟨by decide, by decide⟩) (by decide) k) ?_
  obtain ⟨x2, M1, hc4, hK3, h⟩ := h
  refine XL.up (pc' := 293) (st' := [zi x2]) (fun _ _ k => x_callVK (ci := 9) (as := [zi 97]) (st := []) hK k9_feed lmL_17 dXL_law_290 rfl (by decide) (zs8 rfl) h0.1 ⟨_, _, rfl⟩ hc4 k) ?_
  refine XL.br (tgt := 427) (pc' := 296) (x2 ≤ 0) (fun _ _ kt kf => x_if_le dXL_law_293 rfl kt kf) (fun c => ?_) (fun c => ?_)
  · have h := h.1 c
    refine XL.up (pc' := 428) (fun _ _ k => x_iconst dXL_law_427 (show inR 0 from ⟨by decide, by decide⟩) k) ?_
    exact h.elim
  · have h := h.2 c
    exact h
set_option maxHeartbeats 4000000 in
set_option maxRecDepth 20000 in
theorem BL_296 {q : Nat × (Nat → Int)} {d : Nat} {K M : ZMem} (l3 : Int) (l4 : Int) (l6 : Int) (l7 : Int) (l8 : Int) (hq : ∀ j, inR (q.2 j)) (hq1 : q.1 ≤ 260) (hK : KW K M) (h0 : TopAt K 2) (h5 : mS K 2230 = (1, 3)) (h : Ci d q9_feed [zr 2, zi 59] M (fun x2 M1 => KW K M1 ∧ ((x2 ≤ 0 → (False)) ∧ (¬ (x2 ≤ 0) → (XL q (d + 1) 305 [some (zr 1), some (zr 2), none, some (zi l3), some (zi l4), some (zr 2230), some (zi l6), some (zi l7), some (zi l8), none, none, none, none, none, none, none, none, none, none, none, none, none, none, none] [] M1))))) : XL q (d + 1) 296 [some (zr 1), some (zr 2), none, some (zi l3), some (zi l4), some (zr 2230), some (zi l6), some (zi l7), some (zi l8), none, none, none, none, none, none, none, none, none, none, none, none, none, none, none] [] M := by
  refine XL.up (pc' := 297) (fun _ _ k => x_aload_n dXL_law_296 rfl rfl k) ?_
  refine XL.up (pc' := 299) (fun _ _ k => x_bipush dXL_law_297 (show inR 59 from ⟨by decide, by decide⟩) (by decide) k) ?_
  obtain ⟨x2, M1, hc4, hK3, h⟩ := h
  refine XL.up (pc' := 302) (st' := [zi x2]) (fun _ _ k => x_callVK (ci := 9) (as := [zi 59]) (st := []) hK k9_feed lmL_17 dXL_law_299 rfl (by decide) (zs8 rfl) h0.1 ⟨_, _, rfl⟩ hc4 k) ?_
  refine XL.br (tgt := 427) (pc' := 305) (x2 ≤ 0) (fun _ _ kt kf => x_if_le dXL_law_302 rfl kt kf) (fun c => ?_) (fun c => ?_)
  · have h := h.1 c
    refine XL.up (pc' := 428) (fun _ _ k => x_iconst dXL_law_427 (show inR 0 from ⟨by decide, by decide⟩) k) ?_
    exact h.elim
  · have h := h.2 c
    exact h
set_option maxHeartbeats 4000000 in
set_option maxRecDepth 20000 in
theorem BL_305 {q : Nat × (Nat → Int)} {d : Nat} {K M : ZMem} (l3 : Int) (l4 : Int) (l6 : Int) (l7 : Int) (l8 : Int) (hq : ∀ j, inR (q.2 j)) (hq1 : q.1 ≤ 260) (hK : KW K M) (h0 : TopAt K 2) (h5 : mS K 2230 = (1, 3)) (h : Ci d q9_feed [zr 2, zi 97] M (fun x2 M1 => KW K M1 ∧ ((x2 ≤ 0 → (False)) ∧ (¬ (x2 ≤ 0) → (XL q (d + 1) 314 [some (zr 1), some (zr 2), none, some (zi l3), some (zi l4), some (zr 2230), some (zi l6), some (zi l7), some (zi l8), none, none, none, none, none, none, none, none, none, none, none, none, none, none, none] [] M1))))) : XL q (d + 1) 305 [some (zr 1), some (zr 2), none, some (zi l3), some (zi l4), some (zr 2230), some (zi l6), some (zi l7), some (zi l8), none, none, none, none, none, none, none, none, none, none, none, none, none, none, none] [] M := by
  refine XL.up (pc' := 306) (fun _ _ k => x_aload_n dXL_law_305 rfl rfl k) ?_
  refine XL.up (pc' := 308) (fun _ _ k => x_bipush dXL_law_306 (show inR 97 from ⟨by decide, by decide⟩) (by decide) k) ?_
  obtain ⟨x2, M1, hc4, hK3, h⟩ := h
  refine XL.up (pc' := 311) (st' := [zi x2]) (fun _ _ k => x_callVK (ci := 9) (as := [zi 97]) (st := []) hK k9_feed lmL_17 dXL_law_308 rfl (by decide) (zs8 rfl) h0.1 ⟨_, _, rfl⟩ hc4 k) ?_
  refine XL.br (tgt := 427) (pc' := 314) (x2 ≤ 0) (fun _ _ kt kf => x_if_le dXL_law_311 rfl kt kf) (fun c => ?_) (fun c => ?_)
  · have h := h.1 c
    refine XL.up (pc' := 428) (fun _ _ k => x_iconst dXL_law_427 (show inR 0 from ⟨by decide, by decide⟩) k) ?_
    exact h.elim
  · have h := h.2 c
    exact h
set_option maxHeartbeats 4000000 in
set_option maxRecDepth 20000 in
theorem BL_314 {q : Nat × (Nat → Int)} {d : Nat} {K M : ZMem} (l3 : Int) (l4 : Int) (l6 : Int) (l7 : Int) (l8 : Int) (hq : ∀ j, inR (q.2 j)) (hq1 : q.1 ≤ 260) (hK : KW K M) (h0 : TopAt K 2) (h5 : mS K 2230 = (1, 3)) (h : Ci d q9_feed [zr 2, zi 43] M (fun x2 M1 => KW K M1 ∧ ((x2 ≤ 0 → (False)) ∧ (¬ (x2 ≤ 0) → (XL q (d + 1) 323 [some (zr 1), some (zr 2), none, some (zi l3), some (zi l4), some (zr 2230), some (zi l6), some (zi l7), some (zi l8), none, none, none, none, none, none, none, none, none, none, none, none, none, none, none] [] M1))))) : XL q (d + 1) 314 [some (zr 1), some (zr 2), none, some (zi l3), some (zi l4), some (zr 2230), some (zi l6), some (zi l7), some (zi l8), none, none, none, none, none, none, none, none, none, none, none, none, none, none, none] [] M := by
  refine XL.up (pc' := 315) (fun _ _ k => x_aload_n dXL_law_314 rfl rfl k) ?_
  refine XL.up (pc' := 317) (fun _ _ k => x_bipush dXL_law_315 (show inR 43 from ⟨by decide, by decide⟩) (by decide) k) ?_
  obtain ⟨x2, M1, hc4, hK3, h⟩ := h
  refine XL.up (pc' := 320) (st' := [zi x2]) (fun _ _ k => x_callVK (ci := 9) (as := [zi 43]) (st := []) hK k9_feed lmL_17 dXL_law_317 rfl (by decide) (zs8 rfl) h0.1 ⟨_, _, rfl⟩ hc4 k) ?_
  refine XL.br (tgt := 427) (pc' := 323) (x2 ≤ 0) (fun _ _ kt kf => x_if_le dXL_law_320 rfl kt kf) (fun c => ?_) (fun c => ?_)
  · have h := h.1 c
    refine XL.up (pc' := 428) (fun _ _ k => x_iconst dXL_law_427 (show inR 0 from ⟨by decide, by decide⟩) k) ?_
    exact h.elim
  · have h := h.2 c
    exact h
set_option maxHeartbeats 4000000 in
set_option maxRecDepth 20000 in
theorem BL_323 {q : Nat × (Nat → Int)} {d : Nat} {K M : ZMem} (l3 : Int) (l4 : Int) (l6 : Int) (l7 : Int) (l8 : Int) (hq : ∀ j, inR (q.2 j)) (hq1 : q.1 ≤ 260) (hK : KW K M) (h0 : TopAt K 2) (h5 : mS K 2230 = (1, 3)) (h : Ci d q9_feed [zr 2, zi 98] M (fun x2 M1 => KW K M1 ∧ ((x2 ≤ 0 → (False)) ∧ (¬ (x2 ≤ 0) → (XL q (d + 1) 332 [some (zr 1), some (zr 2), none, some (zi l3), some (zi l4), some (zr 2230), some (zi l6), some (zi l7), some (zi l8), none, none, none, none, none, none, none, none, none, none, none, none, none, none, none] [] M1))))) : XL q (d + 1) 323 [some (zr 1), some (zr 2), none, some (zi l3), some (zi l4), some (zr 2230), some (zi l6), some (zi l7), some (zi l8), none, none, none, none, none, none, none, none, none, none, none, none, none, none, none] [] M := by
  refine XL.up (pc' := 324) (fun _ _ k => x_aload_n dXL_law_323 rfl rfl k) ?_
  refine XL.up (pc' := 326) (fun _ _ k => x_bipush dXL_law_324 (show inR 98 from ⟨by decide, by decide⟩) (by decide) k) ?_
  obtain ⟨x2, M1, hc4, hK3, h⟩ := h
  refine XL.up (pc' := 329) (st' := [zi x2]) (fun _ _ k => x_callVK (ci := 9) (as := [zi 98]) (st := []) hK k9_feed lmL_17 dXL_law_326 rfl (by decide) (zs8 rfl) h0.1 ⟨_, _, rfl⟩ hc4 k) ?_
  refine XL.br (tgt := 427) (pc' := 332) (x2 ≤ 0) (fun _ _ kt kf => x_if_le dXL_law_329 rfl kt kf) (fun c => ?_) (fun c => ?_)
  · have h := h.1 c
    refine XL.up (pc' := 428) (fun _ _ k => x_iconst dXL_law_427 (show inR 0 from ⟨by decide, by decide⟩) k) ?_
    exact h.elim
  · have h := h.2 c
    exact h
set_option maxHeartbeats 4000000 in
set_option maxRecDepth 20000 in
theorem BL_332 {q : Nat × (Nat → Int)} {d : Nat} {K M : ZMem} (l3 : Int) (l4 : Int) (l6 : Int) (l7 : Int) (l8 : Int) (hq : ∀ j, inR (q.2 j)) (hq1 : q.1 ≤ 260) (hK : KW K M) (h0 : TopAt K 2) (h5 : mS K 2230 = (1, 3)) (h : Ci d q9_feed [zr 2, zi 42] M (fun x2 M1 => KW K M1 ∧ ((x2 ≤ 0 → (False)) ∧ (¬ (x2 ≤ 0) → (XL q (d + 1) 341 [some (zr 1), some (zr 2), none, some (zi l3), some (zi l4), some (zr 2230), some (zi l6), some (zi l7), some (zi l8), none, none, none, none, none, none, none, none, none, none, none, none, none, none, none] [] M1))))) : XL q (d + 1) 332 [some (zr 1), some (zr 2), none, some (zi l3), some (zi l4), some (zr 2230), some (zi l6), some (zi l7), some (zi l8), none, none, none, none, none, none, none, none, none, none, none, none, none, none, none] [] M := by
  refine XL.up (pc' := 333) (fun _ _ k => x_aload_n dXL_law_332 rfl rfl k) ?_
  refine XL.up (pc' := 335) (fun _ _ k => x_bipush dXL_law_333 (show inR 42 from ⟨by decide, by decide⟩) (by decide) k) ?_
  obtain ⟨x2, M1, hc4, hK3, h⟩ := h
  refine XL.up (pc' := 338) (st' := [zi x2]) (fun _ _ k => x_callVK (ci := 9) (as := [zi 42]) (st := []) hK k9_feed lmL_17 dXL_law_335 rfl (by decide) (zs8 rfl) h0.1 ⟨_, _, rfl⟩ hc4 k) ?_
  refine XL.br (tgt := 427) (pc' := 341) (x2 ≤ 0) (fun _ _ kt kf => x_if_le dXL_law_338 rfl kt kf) (fun c => ?_) (fun c => ?_)
  · have h := h.1 c
    refine XL.up (pc' := 428) (fun _ _ k => x_iconst dXL_law_427 (show inR 0 from ⟨by decide, by decide⟩) k) ?_
    exact h.elim
  · have h := h.2 c
    exact h
set_option maxHeartbeats 4000000 in
set_option maxRecDepth 20000 in
theorem BL_341 {q : Nat × (Nat → Int)} {d : Nat} {K M : ZMem} (l3 : Int) (l4 : Int) (l6 : Int) (l7 : Int) (l8 : Int) (hq : ∀ j, inR (q.2 j)) (hq1 : q.1 ≤ 260) (hK : KW K M) (h0 : TopAt K 2) (h5 : mS K 2230 = (1, 3)) (h : Ci d qL_number [zr 2, zi l6] M (fun x2 M1 => KW K M1 ∧ ((x2 = 0 → (False)) ∧ (¬ (x2 = 0) → (XL q (d + 1) 350 [some (zr 1), some (zr 2), none, some (zi l3), some (zi l4), some (zr 2230), some (zi l6), some (zi l7), some (zi l8), none, none, none, none, none, none, none, none, none, none, none, none, none, none, none] [] M1))))) : XL q (d + 1) 341 [some (zr 1), some (zr 2), none, some (zi l3), some (zi l4), some (zr 2230), some (zi l6), some (zi l7), some (zi l8), none, none, none, none, none, none, none, none, none, none, none, none, none, none, none] [] M := by
  refine XL.up (pc' := 342) (fun _ _ k => x_aload_n dXL_law_341 rfl rfl k) ?_
  refine XL.up (pc' := 344) (fun _ _ k => x_iload dXL_law_342 rfl k) ?_
  obtain ⟨x2, M1, hc4, hK3, h⟩ := h
  refine XL.up (pc' := 347) (st' := [zi x2]) (fun _ _ k => x_callS (as := [zr 2, zi l6]) (st := []) kL_number lmL_21 dXL_law_344 rfl (by decide) (zs8 rfl) hc4 k) ?_
  refine XL.br (tgt := 427) (pc' := 350) (x2 = 0) (fun _ _ kt kf => x_if_eq dXL_law_347 rfl kt kf) (fun c => ?_) (fun c => ?_)
  · have h := h.1 c
    refine XL.up (pc' := 428) (fun _ _ k => x_iconst dXL_law_427 (show inR 0 from ⟨by decide, by decide⟩) k) ?_
    exact h.elim
  · have h := h.2 c
    exact h
set_option maxHeartbeats 4000000 in
set_option maxRecDepth 20000 in
theorem BL_350 {q : Nat × (Nat → Int)} {d : Nat} {K M : ZMem} (l3 : Int) (l4 : Int) (l6 : Int) (l7 : Int) (l8 : Int) (hq : ∀ j, inR (q.2 j)) (hq1 : q.1 ≤ 260) (hK : KW K M) (h0 : TopAt K 2) (h5 : mS K 2230 = (1, 3)) (h : ((l8 ≠ 0 → ((l8 ≠ 1 → ((l8 ≠ 2 → (Ci d q9_feed [zr 2, zi 35] M (fun x2 M1 => KW K M1 ∧ ((x2 ≤ 0 → (False)) ∧ (¬ (x2 ≤ 0) → (XL q (d + 1) 391 [some (zr 1), some (zr 2), none, some (zi l3), some (zi l4), some (zr 2230), some (zi l6), some (zi l7), some (zi l8), none, none, none, none, none, none, none, none, none, none, none, none, none, none, none] [] M1)))))) ∧ (¬ (l8 ≠ 2) → (Ci d q9_feed [zr 2, zi 62] M (fun x6 M5 => KW K M5 ∧ ((x6 ≤ 0 → (False)) ∧ (¬ (x6 ≤ 0) → (XL q (d + 1) 391 [some (zr 1), some (zr 2), none, some (zi l3), some (zi l4), some (zr 2230), some (zi l6), some (zi l7), some (zi l8), none, none, none, none, none, none, none, none, none, none, none, none, none, none, none] [] M5)))))))) ∧ (¬ (l8 ≠ 1) → (Ci d q9_feed [zr 2, zi 60] M (fun x10 M9 => KW K M9 ∧ ((x10 ≤ 0 → (False)) ∧ (¬ (x10 ≤ 0) → (XL q (d + 1) 391 [some (zr 1), some (zr 2), none, some (zi l3), some (zi l4), some (zr 2230), some (zi l6), some (zi l7), some (zi l8), none, none, none, none, none, none, none, none, none, none, none, none, none, none, none] [] M9)))))))) ∧ (¬ (l8 ≠ 0) → (Ci d q9_feed [zr 2, zi 61] M (fun x14 M13 => KW K M13 ∧ ((x14 ≤ 0 → (False)) ∧ (¬ (x14 ≤ 0) → (XL q (d + 1) 391 [some (zr 1), some (zr 2), none, some (zi l3), some (zi l4), some (zr 2230), some (zi l6), some (zi l7), some (zi l8), none, none, none, none, none, none, none, none, none, none, none, none, none, none, none] [] M13)))))))) : XL q (d + 1) 350 [some (zr 1), some (zr 2), none, some (zi l3), some (zi l4), some (zr 2230), some (zi l6), some (zi l7), some (zi l8), none, none, none, none, none, none, none, none, none, none, none, none, none, none, none] [] M := by
  refine XL.up (pc' := 351) (fun _ _ k => x_aload_n dXL_law_350 rfl rfl k) ?_
  refine XL.up (pc' := 353) (fun _ _ k => x_iload dXL_law_351 rfl k) ?_
  refine XL.br (tgt := 361) (pc' := 356) (l8 ≠ 0) (fun _ _ kt kf => x_if_ne dXL_law_353 rfl kt kf) (fun c => ?_) (fun c => ?_)
  · have h := h.1 c
    refine XL.up (pc' := 363) (fun _ _ k => x_iload dXL_law_361 rfl k) ?_
    refine XL.up (pc' := 364) (fun _ _ k => x_iconst dXL_law_363 (show inR 1 from ⟨by decide, by decide⟩) k) ?_
    refine XL.br (tgt := 372) (pc' := 367) (l8 ≠ 1) (fun _ _ kt kf => x_icmp_ne dXL_law_364 rfl kt kf) (fun c => ?_) (fun c => ?_)
    · have h := h.1 c
      refine XL.up (pc' := 374) (fun _ _ k => x_iload dXL_law_372 rfl k) ?_
      refine XL.up (pc' := 375) (fun _ _ k => x_iconst dXL_law_374 (show inR 2 from ⟨by decide, by decide⟩) k) ?_
      refine XL.br (tgt := 383) (pc' := 378) (l8 ≠ 2) (fun _ _ kt kf => x_icmp_ne dXL_law_375 rfl kt kf) (fun c => ?_) (fun c => ?_)
      · have h := h.1 c
        refine XL.up (pc' := 385) (fun _ _ k => x_bipush dXL_law_383 (show inR 35 from ⟨by decide, by decide⟩) (by decide) k) ?_
        obtain ⟨x2, M1, hc4, hK3, h⟩ := h
        refine XL.up (pc' := 388) (st' := [zi x2]) (fun _ _ k => x_callVK (ci := 9) (as := [zi 35]) (st := []) hK k9_feed lmL_17 dXL_law_385 rfl (by decide) (zs8 rfl) h0.1 ⟨_, _, rfl⟩ hc4 k) ?_
        refine XL.br (tgt := 427) (pc' := 391) (x2 ≤ 0) (fun _ _ kt kf => x_if_le dXL_law_388 rfl kt kf) (fun c => ?_) (fun c => ?_)
        · have h := h.1 c
          refine XL.up (pc' := 428) (fun _ _ k => x_iconst dXL_law_427 (show inR 0 from ⟨by decide, by decide⟩) k) ?_
          exact h.elim
        · have h := h.2 c
          exact h
      · have h := h.2 c
        refine XL.up (pc' := 380) (fun _ _ k => x_bipush dXL_law_378 (show inR 62 from ⟨by decide, by decide⟩) (by decide) k) ?_
        refine XL.up (pc' := 385) (fun _ _ k => x_goto dXL_law_380 rfl k) ?_
        obtain ⟨x6, M5, hc8, hK7, h⟩ := h
        refine XL.up (pc' := 388) (st' := [zi x6]) (fun _ _ k => x_callVK (ci := 9) (as := [zi 62]) (st := []) hK k9_feed lmL_17 dXL_law_385 rfl (by decide) (zs8 rfl) h0.1 ⟨_, _, rfl⟩ hc8 k) ?_
        refine XL.br (tgt := 427) (pc' := 391) (x6 ≤ 0) (fun _ _ kt kf => x_if_le dXL_law_388 rfl kt kf) (fun c => ?_) (fun c => ?_)
        · have h := h.1 c
          refine XL.up (pc' := 428) (fun _ _ k => x_iconst dXL_law_427 (show inR 0 from ⟨by decide, by decide⟩) k) ?_
          exact h.elim
        · have h := h.2 c
          exact h
    · have h := h.2 c
      refine XL.up (pc' := 369) (fun _ _ k => x_bipush dXL_law_367 (show inR 60 from ⟨by decide, by decide⟩) (by decide) k) ?_
      refine XL.up (pc' := 385) (fun _ _ k => x_goto dXL_law_369 rfl k) ?_
      obtain ⟨x10, M9, hc12, hK11, h⟩ := h
      refine XL.up (pc' := 388) (st' := [zi x10]) (fun _ _ k => x_callVK (ci := 9) (as := [zi 60]) (st := []) hK k9_feed lmL_17 dXL_law_385 rfl (by decide) (zs8 rfl) h0.1 ⟨_, _, rfl⟩ hc12 k) ?_
      refine XL.br (tgt := 427) (pc' := 391) (x10 ≤ 0) (fun _ _ kt kf => x_if_le dXL_law_388 rfl kt kf) (fun c => ?_) (fun c => ?_)
      · have h := h.1 c
        refine XL.up (pc' := 428) (fun _ _ k => x_iconst dXL_law_427 (show inR 0 from ⟨by decide, by decide⟩) k) ?_
        exact h.elim
      · have h := h.2 c
        exact h
  · have h := h.2 c
    refine XL.up (pc' := 358) (fun _ _ k => x_bipush dXL_law_356 (show inR 61 from ⟨by decide, by decide⟩) (by decide) k) ?_
    refine XL.up (pc' := 385) (fun _ _ k => x_goto dXL_law_358 rfl k) ?_
    obtain ⟨x14, M13, hc16, hK15, h⟩ := h
    refine XL.up (pc' := 388) (st' := [zi x14]) (fun _ _ k => x_callVK (ci := 9) (as := [zi 61]) (st := []) hK k9_feed lmL_17 dXL_law_385 rfl (by decide) (zs8 rfl) h0.1 ⟨_, _, rfl⟩ hc16 k) ?_
    refine XL.br (tgt := 427) (pc' := 391) (x14 ≤ 0) (fun _ _ kt kf => x_if_le dXL_law_388 rfl kt kf) (fun c => ?_) (fun c => ?_)
    · have h := h.1 c
      refine XL.up (pc' := 428) (fun _ _ k => x_iconst dXL_law_427 (show inR 0 from ⟨by decide, by decide⟩) k) ?_
      exact h.elim
    · have h := h.2 c
      exact h
set_option maxHeartbeats 4000000 in
set_option maxRecDepth 20000 in
theorem BL_391 {q : Nat × (Nat → Int)} {d : Nat} {K M : ZMem} (l3 : Int) (l4 : Int) (l6 : Int) (l7 : Int) (l8 : Int) (hq : ∀ j, inR (q.2 j)) (hq1 : q.1 ≤ 260) (hK : KW K M) (h0 : TopAt K 2) (h5 : mS K 2230 = (1, 3)) (h : Ci d q9_feed [zr 2, zi 99] M (fun x2 M1 => KW K M1 ∧ ((x2 ≤ 0 → (False)) ∧ (¬ (x2 ≤ 0) → (XL q (d + 1) 400 [some (zr 1), some (zr 2), none, some (zi l3), some (zi l4), some (zr 2230), some (zi l6), some (zi l7), some (zi l8), none, none, none, none, none, none, none, none, none, none, none, none, none, none, none] [] M1))))) : XL q (d + 1) 391 [some (zr 1), some (zr 2), none, some (zi l3), some (zi l4), some (zr 2230), some (zi l6), some (zi l7), some (zi l8), none, none, none, none, none, none, none, none, none, none, none, none, none, none, none] [] M := by
  refine XL.up (pc' := 392) (fun _ _ k => x_aload_n dXL_law_391 rfl rfl k) ?_
  refine XL.up (pc' := 394) (fun _ _ k => x_bipush dXL_law_392 (show inR 99 from ⟨by decide, by decide⟩) (by decide) k) ?_
  obtain ⟨x2, M1, hc4, hK3, h⟩ := h
  refine XL.up (pc' := 397) (st' := [zi x2]) (fun _ _ k => x_callVK (ci := 9) (as := [zi 99]) (st := []) hK k9_feed lmL_17 dXL_law_394 rfl (by decide) (zs8 rfl) h0.1 ⟨_, _, rfl⟩ hc4 k) ?_
  refine XL.br (tgt := 427) (pc' := 400) (x2 ≤ 0) (fun _ _ kt kf => x_if_le dXL_law_397 rfl kt kf) (fun c => ?_) (fun c => ?_)
  · have h := h.1 c
    refine XL.up (pc' := 428) (fun _ _ k => x_iconst dXL_law_427 (show inR 0 from ⟨by decide, by decide⟩) k) ?_
    exact h.elim
  · have h := h.2 c
    exact h
set_option maxHeartbeats 4000000 in
set_option maxRecDepth 20000 in
theorem BL_400 {q : Nat × (Nat → Int)} {d : Nat} {K M : ZMem} (l3 : Int) (l4 : Int) (l6 : Int) (l7 : Int) (l8 : Int) (hq : ∀ j, inR (q.2 j)) (hq1 : q.1 ≤ 260) (hK : KW K M) (h0 : TopAt K 2) (h5 : mS K 2230 = (1, 3)) (h : Ci d q9_feed [zr 2, zi 43] M (fun x2 M1 => KW K M1 ∧ ((x2 ≤ 0 → (False)) ∧ (¬ (x2 ≤ 0) → (XL q (d + 1) 409 [some (zr 1), some (zr 2), none, some (zi l3), some (zi l4), some (zr 2230), some (zi l6), some (zi l7), some (zi l8), none, none, none, none, none, none, none, none, none, none, none, none, none, none, none] [] M1))))) : XL q (d + 1) 400 [some (zr 1), some (zr 2), none, some (zi l3), some (zi l4), some (zr 2230), some (zi l6), some (zi l7), some (zi l8), none, none, none, none, none, none, none, none, none, none, none, none, none, none, none] [] M := by
  refine XL.up (pc' := 401) (fun _ _ k => x_aload_n dXL_law_400 rfl rfl k) ?_
  refine XL.up (pc' := 403) (fun _ _ k => x_bipush dXL_law_401 (show inR 43 from ⟨by decide, by decide⟩) (by decide) k) ?_
  obtain ⟨x2, M1, hc4, hK3, h⟩ := h
  refine XL.up (pc' := 406) (st' := [zi x2]) (fun _ _ k => x_callVK (ci := 9) (as := [zi 43]) (st := []) hK k9_feed lmL_17 dXL_law_403 rfl (by decide) (zs8 rfl) h0.1 ⟨_, _, rfl⟩ hc4 k) ?_
  refine XL.br (tgt := 427) (pc' := 409) (x2 ≤ 0) (fun _ _ kt kf => x_if_le dXL_law_406 rfl kt kf) (fun c => ?_) (fun c => ?_)
  · have h := h.1 c
    refine XL.up (pc' := 428) (fun _ _ k => x_iconst dXL_law_427 (show inR 0 from ⟨by decide, by decide⟩) k) ?_
    exact h.elim
  · have h := h.2 c
    exact h
set_option maxHeartbeats 4000000 in
set_option maxRecDepth 20000 in
theorem BL_409 {q : Nat × (Nat → Int)} {d : Nat} {K M : ZMem} (l3 : Int) (l4 : Int) (l6 : Int) (l7 : Int) (l8 : Int) (hq : ∀ j, inR (q.2 j)) (hq1 : q.1 ≤ 260) (hK : KW K M) (h0 : TopAt K 2) (h5 : mS K 2230 = (1, 3)) (h : Ci d qL_number [zr 2, zi l7] M (fun x2 M1 => KW K M1 ∧ ((x2 = 0 → (False)) ∧ (¬ (x2 = 0) → (XL q (d + 1) 418 [some (zr 1), some (zr 2), none, some (zi l3), some (zi l4), some (zr 2230), some (zi l6), some (zi l7), some (zi l8), none, none, none, none, none, none, none, none, none, none, none, none, none, none, none] [] M1))))) : XL q (d + 1) 409 [some (zr 1), some (zr 2), none, some (zi l3), some (zi l4), some (zr 2230), some (zi l6), some (zi l7), some (zi l8), none, none, none, none, none, none, none, none, none, none, none, none, none, none, none] [] M := by
  refine XL.up (pc' := 410) (fun _ _ k => x_aload_n dXL_law_409 rfl rfl k) ?_
  refine XL.up (pc' := 412) (fun _ _ k => x_iload dXL_law_410 rfl k) ?_
  obtain ⟨x2, M1, hc4, hK3, h⟩ := h
  refine XL.up (pc' := 415) (st' := [zi x2]) (fun _ _ k => x_callS (as := [zr 2, zi l7]) (st := []) kL_number lmL_21 dXL_law_412 rfl (by decide) (zs8 rfl) hc4 k) ?_
  refine XL.br (tgt := 427) (pc' := 418) (x2 = 0) (fun _ _ kt kf => x_if_eq dXL_law_415 rfl kt kf) (fun c => ?_) (fun c => ?_)
  · have h := h.1 c
    refine XL.up (pc' := 428) (fun _ _ k => x_iconst dXL_law_427 (show inR 0 from ⟨by decide, by decide⟩) k) ?_
    exact h.elim
  · have h := h.2 c
    exact h
set_option maxHeartbeats 4000000 in
set_option maxRecDepth 20000 in
theorem BL_418 {q : Nat × (Nat → Int)} {d : Nat} {K M : ZMem} (l3 : Int) (l4 : Int) (l6 : Int) (l7 : Int) (l8 : Int) (hq : ∀ j, inR (q.2 j)) (hq1 : q.1 ≤ 260) (hK : KW K M) (h0 : TopAt K 2) (h5 : mS K 2230 = (1, 3)) (h : Ci d q9_program [zr 2, zi 0] M (fun x2 M1 => KW K M1 ∧ ((x2 = 4 → (XL q (d + 1) 429 [some (zr 1), some (zr 2), none, some (zi l3), some (zi l4), some (zr 2230), some (zi l6), some (zi l7), some (zi l8), none, none, none, none, none, none, none, none, none, none, none, none, none, none, none] [] M1)) ∧ (¬ (x2 = 4) → (False))))) : XL q (d + 1) 418 [some (zr 1), some (zr 2), none, some (zi l3), some (zi l4), some (zr 2230), some (zi l6), some (zi l7), some (zi l8), none, none, none, none, none, none, none, none, none, none, none, none, none, none, none] [] M := by
  refine XL.up (pc' := 419) (fun _ _ k => x_aload_n dXL_law_418 rfl rfl k) ?_
  refine XL.up (pc' := 420) (fun _ _ k => x_iconst dXL_law_419 (show inR 0 from ⟨by decide, by decide⟩) k) ?_
  obtain ⟨x2, M1, hc4, hK3, h⟩ := h
  refine XL.up (pc' := 423) (st' := [zi x2]) (fun _ _ k => x_callVK (ci := 9) (as := [zi 0]) (st := []) hK k9_program lmL_25 dXL_law_420 rfl (by decide) (zs8 rfl) h0.1 ⟨_, _, rfl⟩ hc4 k) ?_
  refine XL.up (pc' := 424) (fun _ _ k => x_iconst dXL_law_423 (show inR 4 from ⟨by decide, by decide⟩) k) ?_
  refine XL.br (tgt := 429) (pc' := 427) (x2 = 4) (fun _ _ kt kf => x_icmp_eq dXL_law_424 rfl kt kf) (fun c => ?_) (fun c => ?_)
  · have h := h.1 c
    exact h
  · have h := h.2 c
    refine XL.up (pc' := 428) (fun _ _ k => x_iconst dXL_law_427 (show inR 0 from ⟨by decide, by decide⟩) k) ?_
    exact h.elim
set_option maxHeartbeats 4000000 in
set_option maxRecDepth 20000 in
theorem BL_429 {q : Nat × (Nat → Int)} {d : Nat} {K M : ZMem} (l3 : Int) (l4 : Int) (l6 : Int) (l7 : Int) (l8 : Int) (hq : ∀ j, inR (q.2 j)) (hq1 : q.1 ≤ 260) (hK : KW K M) (h0 : TopAt K 2) (h5 : mS K 2230 = (1, 3)) (h : Ci d q9_feed [zr 2, zi 97] M (fun x2 M1 => KW K M1 ∧ ((x2 ≤ 0 → (False)) ∧ (¬ (x2 ≤ 0) → (XL q (d + 1) 438 [some (zr 1), some (zr 2), none, some (zi l3), some (zi l4), some (zr 2230), some (zi l6), some (zi l7), some (zi l8), none, none, none, none, none, none, none, none, none, none, none, none, none, none, none] [] M1))))) : XL q (d + 1) 429 [some (zr 1), some (zr 2), none, some (zi l3), some (zi l4), some (zr 2230), some (zi l6), some (zi l7), some (zi l8), none, none, none, none, none, none, none, none, none, none, none, none, none, none, none] [] M := by
  refine XL.up (pc' := 430) (fun _ _ k => x_aload_n dXL_law_429 rfl rfl k) ?_
  refine XL.up (pc' := 432) (fun _ _ k => x_bipush dXL_law_430 (show inR 97 from ⟨by decide, by decide⟩) (by decide) k) ?_
  obtain ⟨x2, M1, hc4, hK3, h⟩ := h
  refine XL.up (pc' := 435) (st' := [zi x2]) (fun _ _ k => x_callVK (ci := 9) (as := [zi 97]) (st := []) hK k9_feed lmL_17 dXL_law_432 rfl (by decide) (zs8 rfl) h0.1 ⟨_, _, rfl⟩ hc4 k) ?_
  refine XL.br (tgt := 483) (pc' := 438) (x2 ≤ 0) (fun _ _ kt kf => x_if_le dXL_law_435 rfl kt kf) (fun c => ?_) (fun c => ?_)
  · have h := h.1 c
    refine XL.up (pc' := 484) (fun _ _ k => x_iconst dXL_law_483 (show inR 0 from ⟨by decide, by decide⟩) k) ?_
    exact h.elim
  · have h := h.2 c
    exact h
set_option maxHeartbeats 4000000 in
set_option maxRecDepth 20000 in
theorem BL_438 {q : Nat × (Nat → Int)} {d : Nat} {K M : ZMem} (l3 : Int) (l4 : Int) (l6 : Int) (l7 : Int) (l8 : Int) (hq : ∀ j, inR (q.2 j)) (hq1 : q.1 ≤ 260) (hK : KW K M) (h0 : TopAt K 2) (h5 : mS K 2230 = (1, 3)) (h : Ci d q9_feed [zr 2, zi 42] M (fun x2 M1 => KW K M1 ∧ ((x2 ≤ 0 → (False)) ∧ (¬ (x2 ≤ 0) → (XL q (d + 1) 447 [some (zr 1), some (zr 2), none, some (zi l3), some (zi l4), some (zr 2230), some (zi l6), some (zi l7), some (zi l8), none, none, none, none, none, none, none, none, none, none, none, none, none, none, none] [] M1))))) : XL q (d + 1) 438 [some (zr 1), some (zr 2), none, some (zi l3), some (zi l4), some (zr 2230), some (zi l6), some (zi l7), some (zi l8), none, none, none, none, none, none, none, none, none, none, none, none, none, none, none] [] M := by
  refine XL.up (pc' := 439) (fun _ _ k => x_aload_n dXL_law_438 rfl rfl k) ?_
  refine XL.up (pc' := 441) (fun _ _ k => x_bipush dXL_law_439 (show inR 42 from ⟨by decide, by decide⟩) (by decide) k) ?_
  obtain ⟨x2, M1, hc4, hK3, h⟩ := h
  refine XL.up (pc' := 444) (st' := [zi x2]) (fun _ _ k => x_callVK (ci := 9) (as := [zi 42]) (st := []) hK k9_feed lmL_17 dXL_law_441 rfl (by decide) (zs8 rfl) h0.1 ⟨_, _, rfl⟩ hc4 k) ?_
  refine XL.br (tgt := 483) (pc' := 447) (x2 ≤ 0) (fun _ _ kt kf => x_if_le dXL_law_444 rfl kt kf) (fun c => ?_) (fun c => ?_)
  · have h := h.1 c
    refine XL.up (pc' := 484) (fun _ _ k => x_iconst dXL_law_483 (show inR 0 from ⟨by decide, by decide⟩) k) ?_
    exact h.elim
  · have h := h.2 c
    exact h
set_option maxHeartbeats 4000000 in
set_option maxRecDepth 20000 in
theorem BL_447 {q : Nat × (Nat → Int)} {d : Nat} {K M : ZMem} (l3 : Int) (l4 : Int) (l6 : Int) (l7 : Int) (l8 : Int) (hq : ∀ j, inR (q.2 j)) (hq1 : q.1 ≤ 260) (hK : KW K M) (h0 : TopAt K 2) (h5 : mS K 2230 = (1, 3)) (h : Ci d q9_feed [zr 2, zi 98] M (fun x2 M1 => KW K M1 ∧ ((x2 ≤ 0 → (False)) ∧ (¬ (x2 ≤ 0) → (XL q (d + 1) 456 [some (zr 1), some (zr 2), none, some (zi l3), some (zi l4), some (zr 2230), some (zi l6), some (zi l7), some (zi l8), none, none, none, none, none, none, none, none, none, none, none, none, none, none, none] [] M1))))) : XL q (d + 1) 447 [some (zr 1), some (zr 2), none, some (zi l3), some (zi l4), some (zr 2230), some (zi l6), some (zi l7), some (zi l8), none, none, none, none, none, none, none, none, none, none, none, none, none, none, none] [] M := by
  refine XL.up (pc' := 448) (fun _ _ k => x_aload_n dXL_law_447 rfl rfl k) ?_
  refine XL.up (pc' := 450) (fun _ _ k => x_bipush dXL_law_448 (show inR 98 from ⟨by decide, by decide⟩) (by decide) k) ?_
  obtain ⟨x2, M1, hc4, hK3, h⟩ := h
  refine XL.up (pc' := 453) (st' := [zi x2]) (fun _ _ k => x_callVK (ci := 9) (as := [zi 98]) (st := []) hK k9_feed lmL_17 dXL_law_450 rfl (by decide) (zs8 rfl) h0.1 ⟨_, _, rfl⟩ hc4 k) ?_
  refine XL.br (tgt := 483) (pc' := 456) (x2 ≤ 0) (fun _ _ kt kf => x_if_le dXL_law_453 rfl kt kf) (fun c => ?_) (fun c => ?_)
  · have h := h.1 c
    refine XL.up (pc' := 484) (fun _ _ k => x_iconst dXL_law_483 (show inR 0 from ⟨by decide, by decide⟩) k) ?_
    exact h.elim
  · have h := h.2 c
    exact h
set_option maxHeartbeats 4000000 in
set_option maxRecDepth 20000 in
theorem BL_456 {q : Nat × (Nat → Int)} {d : Nat} {K M : ZMem} (l3 : Int) (l4 : Int) (l6 : Int) (l7 : Int) (l8 : Int) (hq : ∀ j, inR (q.2 j)) (hq1 : q.1 ≤ 260) (hK : KW K M) (h0 : TopAt K 2) (h5 : mS K 2230 = (1, 3)) (h : Ci d q9_feed [zr 2, zi 45] M (fun x2 M1 => KW K M1 ∧ ((x2 ≤ 0 → (False)) ∧ (¬ (x2 ≤ 0) → (XL q (d + 1) 465 [some (zr 1), some (zr 2), none, some (zi l3), some (zi l4), some (zr 2230), some (zi l6), some (zi l7), some (zi l8), none, none, none, none, none, none, none, none, none, none, none, none, none, none, none] [] M1))))) : XL q (d + 1) 456 [some (zr 1), some (zr 2), none, some (zi l3), some (zi l4), some (zr 2230), some (zi l6), some (zi l7), some (zi l8), none, none, none, none, none, none, none, none, none, none, none, none, none, none, none] [] M := by
  refine XL.up (pc' := 457) (fun _ _ k => x_aload_n dXL_law_456 rfl rfl k) ?_
  refine XL.up (pc' := 459) (fun _ _ k => x_bipush dXL_law_457 (show inR 45 from ⟨by decide, by decide⟩) (by decide) k) ?_
  obtain ⟨x2, M1, hc4, hK3, h⟩ := h
  refine XL.up (pc' := 462) (st' := [zi x2]) (fun _ _ k => x_callVK (ci := 9) (as := [zi 45]) (st := []) hK k9_feed lmL_17 dXL_law_459 rfl (by decide) (zs8 rfl) h0.1 ⟨_, _, rfl⟩ hc4 k) ?_
  refine XL.br (tgt := 483) (pc' := 465) (x2 ≤ 0) (fun _ _ kt kf => x_if_le dXL_law_462 rfl kt kf) (fun c => ?_) (fun c => ?_)
  · have h := h.1 c
    refine XL.up (pc' := 484) (fun _ _ k => x_iconst dXL_law_483 (show inR 0 from ⟨by decide, by decide⟩) k) ?_
    exact h.elim
  · have h := h.2 c
    exact h
set_option maxHeartbeats 4000000 in
set_option maxRecDepth 20000 in
theorem BL_465 {q : Nat × (Nat → Int)} {d : Nat} {K M : ZMem} (l3 : Int) (l4 : Int) (l6 : Int) (l7 : Int) (l8 : Int) (hq : ∀ j, inR (q.2 j)) (hq1 : q.1 ≤ 260) (hK : KW K M) (h0 : TopAt K 2) (h5 : mS K 2230 = (1, 3)) (h : Ci d q9_feed [zr 2, zi 99] M (fun x2 M1 => KW K M1 ∧ ((x2 ≤ 0 → (False)) ∧ (¬ (x2 ≤ 0) → (XL q (d + 1) 474 [some (zr 1), some (zr 2), none, some (zi l3), some (zi l4), some (zr 2230), some (zi l6), some (zi l7), some (zi l8), none, none, none, none, none, none, none, none, none, none, none, none, none, none, none] [] M1))))) : XL q (d + 1) 465 [some (zr 1), some (zr 2), none, some (zi l3), some (zi l4), some (zr 2230), some (zi l6), some (zi l7), some (zi l8), none, none, none, none, none, none, none, none, none, none, none, none, none, none, none] [] M := by
  refine XL.up (pc' := 466) (fun _ _ k => x_aload_n dXL_law_465 rfl rfl k) ?_
  refine XL.up (pc' := 468) (fun _ _ k => x_bipush dXL_law_466 (show inR 99 from ⟨by decide, by decide⟩) (by decide) k) ?_
  obtain ⟨x2, M1, hc4, hK3, h⟩ := h
  refine XL.up (pc' := 471) (st' := [zi x2]) (fun _ _ k => x_callVK (ci := 9) (as := [zi 99]) (st := []) hK k9_feed lmL_17 dXL_law_468 rfl (by decide) (zs8 rfl) h0.1 ⟨_, _, rfl⟩ hc4 k) ?_
  refine XL.br (tgt := 483) (pc' := 474) (x2 ≤ 0) (fun _ _ kt kf => x_if_le dXL_law_471 rfl kt kf) (fun c => ?_) (fun c => ?_)
  · have h := h.1 c
    refine XL.up (pc' := 484) (fun _ _ k => x_iconst dXL_law_483 (show inR 0 from ⟨by decide, by decide⟩) k) ?_
    exact h.elim
  · have h := h.2 c
    exact h
set_option maxHeartbeats 4000000 in
set_option maxRecDepth 20000 in
theorem BL_474 {q : Nat × (Nat → Int)} {d : Nat} {K M : ZMem} (l3 : Int) (l4 : Int) (l6 : Int) (l7 : Int) (l8 : Int) (hq : ∀ j, inR (q.2 j)) (hq1 : q.1 ≤ 260) (hK : KW K M) (h0 : TopAt K 2) (h5 : mS K 2230 = (1, 3)) (h : Ci d q9_cost [zr 2, zi 0] M (fun x2 M1 => KW K M1 ∧ ((x2 = 1 → (XL q (d + 1) 485 [some (zr 1), some (zr 2), none, some (zi l3), some (zi l4), some (zr 2230), some (zi l6), some (zi l7), some (zi l8), none, none, none, none, none, none, none, none, none, none, none, none, none, none, none] [] M1)) ∧ (¬ (x2 = 1) → (False))))) : XL q (d + 1) 474 [some (zr 1), some (zr 2), none, some (zi l3), some (zi l4), some (zr 2230), some (zi l6), some (zi l7), some (zi l8), none, none, none, none, none, none, none, none, none, none, none, none, none, none, none] [] M := by
  refine XL.up (pc' := 475) (fun _ _ k => x_aload_n dXL_law_474 rfl rfl k) ?_
  refine XL.up (pc' := 476) (fun _ _ k => x_iconst dXL_law_475 (show inR 0 from ⟨by decide, by decide⟩) k) ?_
  obtain ⟨x2, M1, hc4, hK3, h⟩ := h
  refine XL.up (pc' := 479) (st' := [zi x2]) (fun _ _ k => x_callVK (ci := 9) (as := [zi 0]) (st := []) hK k9_cost lmL_28 dXL_law_476 rfl (by decide) (zs8 rfl) h0.1 ⟨_, _, rfl⟩ hc4 k) ?_
  refine XL.up (pc' := 480) (fun _ _ k => x_iconst dXL_law_479 (show inR 1 from ⟨by decide, by decide⟩) k) ?_
  refine XL.br (tgt := 485) (pc' := 483) (x2 = 1) (fun _ _ kt kf => x_icmp_eq dXL_law_480 rfl kt kf) (fun c => ?_) (fun c => ?_)
  · have h := h.1 c
    exact h
  · have h := h.2 c
    refine XL.up (pc' := 484) (fun _ _ k => x_iconst dXL_law_483 (show inR 0 from ⟨by decide, by decide⟩) k) ?_
    exact h.elim
set_option maxHeartbeats 4000000 in
set_option maxRecDepth 20000 in
theorem BL_485 {q : Nat × (Nat → Int)} {d : Nat} {K M : ZMem} (l3 : Int) (l4 : Int) (l6 : Int) (l7 : Int) (l8 : Int) (hq : ∀ j, inR (q.2 j)) (hq1 : q.1 ≤ 260) (hK : KW K M) (h0 : TopAt K 2) (h5 : mS K 2230 = (1, 3)) (h : XL q (d + 1) 492 [some (zr 1), some (zr 2), none, some (zi l3), some (zi l4), some (zr 2230), some (zi l6), some (zi l7), some (zi l8), some (zr (mz M + 1)), none, none, none, none, none, none, none, none, none, none, none, none, none, none] [] (zNew M (1, 400) 400)) : XL q (d + 1) 485 [some (zr 1), some (zr 2), none, some (zi l3), some (zi l4), some (zr 2230), some (zi l6), some (zi l7), some (zi l8), none, none, none, none, none, none, none, none, none, none, none, none, none, none, none] [] M := by
  refine XL.up (pc' := 488) (fun _ _ k => x_sipush dXL_law_485 (show inR 400 from ⟨by decide, by decide⟩) (by decide) k) ?_
  refine XL.up (pc' := 490) (fun _ _ k => x_newarray (n := 400) dXL_law_488 (by decide) k) ?_
  refine XL.up (pc' := 492) (L' := [some (zr 1), some (zr 2), none, some (zi l3), some (zi l4), some (zr 2230), some (zi l6), some (zi l7), some (zi l8), some (zr (mz M + 1)), none, none, none, none, none, none, none, none, none, none, none, none, none, none]) (fun _ _ k => x_astore dXL_law_490 (by decide) rfl k) ?_
  exact h
set_option maxHeartbeats 4000000 in
set_option maxRecDepth 20000 in
theorem BL_492 {q : Nat × (Nat → Int)} {d : Nat} {K M : ZMem} (l3 : Int) (l4 : Int) (l6 : Int) (l7 : Int) (l8 : Int) (hq : ∀ j, inR (q.2 j)) (hq1 : q.1 ≤ 260) (hK : KW K M) (h0 : TopAt K 2) (h5 : mS K 2230 = (1, 3)) (h9 : mS K 2231 = (1, 400)) (h : XL q (d + 1) 499 [some (zr 1), some (zr 2), none, some (zi l3), some (zi l4), some (zr 2230), some (zi l6), some (zi l7), some (zi l8), some (zr 2231), some (zr (mz M + 1)), none, none, none, none, none, none, none, none, none, none, none, none, none] [] (zNew M (1, 400) 400)) : XL q (d + 1) 492 [some (zr 1), some (zr 2), none, some (zi l3), some (zi l4), some (zr 2230), some (zi l6), some (zi l7), some (zi l8), some (zr 2231), none, none, none, none, none, none, none, none, none, none, none, none, none, none] [] M := by
  refine XL.up (pc' := 495) (fun _ _ k => x_sipush dXL_law_492 (show inR 400 from ⟨by decide, by decide⟩) (by decide) k) ?_
  refine XL.up (pc' := 497) (fun _ _ k => x_newarray (n := 400) dXL_law_495 (by decide) k) ?_
  refine XL.up (pc' := 499) (L' := [some (zr 1), some (zr 2), none, some (zi l3), some (zi l4), some (zr 2230), some (zi l6), some (zi l7), some (zi l8), some (zr 2231), some (zr (mz M + 1)), none, none, none, none, none, none, none, none, none, none, none, none, none]) (fun _ _ k => x_astore dXL_law_497 (by decide) rfl k) ?_
  exact h
set_option maxHeartbeats 4000000 in
set_option maxRecDepth 20000 in
theorem BL_499 {q : Nat × (Nat → Int)} {d : Nat} {K M : ZMem} (l3 : Int) (l4 : Int) (l6 : Int) (l7 : Int) (l8 : Int) (hq : ∀ j, inR (q.2 j)) (hq1 : q.1 ≤ 260) (hK : KW K M) (h0 : TopAt K 2) (h5 : mS K 2230 = (1, 3)) (h9 : mS K 2231 = (1, 400)) (h10 : mS K 2232 = (1, 400)) (h : XL q (d + 1) 506 [some (zr 1), some (zr 2), none, some (zi l3), some (zi l4), some (zr 2230), some (zi l6), some (zi l7), some (zi l8), some (zr 2231), some (zr 2232), some (zr (mz M + 1)), none, none, none, none, none, none, none, none, none, none, none, none] [] (zNew M (1, 400) 400)) : XL q (d + 1) 499 [some (zr 1), some (zr 2), none, some (zi l3), some (zi l4), some (zr 2230), some (zi l6), some (zi l7), some (zi l8), some (zr 2231), some (zr 2232), none, none, none, none, none, none, none, none, none, none, none, none, none] [] M := by
  refine XL.up (pc' := 502) (fun _ _ k => x_sipush dXL_law_499 (show inR 400 from ⟨by decide, by decide⟩) (by decide) k) ?_
  refine XL.up (pc' := 504) (fun _ _ k => x_newarray (n := 400) dXL_law_502 (by decide) k) ?_
  refine XL.up (pc' := 506) (L' := [some (zr 1), some (zr 2), none, some (zi l3), some (zi l4), some (zr 2230), some (zi l6), some (zi l7), some (zi l8), some (zr 2231), some (zr 2232), some (zr (mz M + 1)), none, none, none, none, none, none, none, none, none, none, none, none]) (fun _ _ k => x_astore dXL_law_504 (by decide) rfl k) ?_
  exact h
set_option maxHeartbeats 4000000 in
set_option maxRecDepth 20000 in
theorem BL_506 {q : Nat × (Nat → Int)} {d : Nat} {K M : ZMem} (l3 : Int) (l4 : Int) (l6 : Int) (l7 : Int) (l8 : Int) (hq : ∀ j, inR (q.2 j)) (hq1 : q.1 ≤ 260) (hK : KW K M) (h0 : TopAt K 2) (h5 : mS K 2230 = (1, 3)) (h9 : mS K 2231 = (1, 400)) (h10 : mS K 2232 = (1, 400)) (h11 : mS K 2233 = (1, 400)) (h : XL q (d + 1) 515 [some (zr 1), some (zr 2), none, some (zi l3), some (zi l4), some (zr 2230), some (zi l6), some (zi l7), some (zi l8), some (zr 2231), some (zr 2232), some (zr 2233), some (zi 0), some (zi 0), some (zi l3), none, none, none, none, none, none, none, none, none] [] M) : XL q (d + 1) 506 [some (zr 1), some (zr 2), none, some (zi l3), some (zi l4), some (zr 2230), some (zi l6), some (zi l7), some (zi l8), some (zr 2231), some (zr 2232), some (zr 2233), none, none, none, none, none, none, none, none, none, none, none, none] [] M := by
  refine XL.up (pc' := 507) (fun _ _ k => x_iconst dXL_law_506 (show inR 0 from ⟨by decide, by decide⟩) k) ?_
  refine XL.up (pc' := 509) (L' := [some (zr 1), some (zr 2), none, some (zi l3), some (zi l4), some (zr 2230), some (zi l6), some (zi l7), some (zi l8), some (zr 2231), some (zr 2232), some (zr 2233), some (zi 0), none, none, none, none, none, none, none, none, none, none, none]) (fun _ _ k => x_istore dXL_law_507 (by decide) rfl k) ?_
  refine XL.up (pc' := 510) (fun _ _ k => x_iconst dXL_law_509 (show inR 0 from ⟨by decide, by decide⟩) k) ?_
  refine XL.up (pc' := 512) (L' := [some (zr 1), some (zr 2), none, some (zi l3), some (zi l4), some (zr 2230), some (zi l6), some (zi l7), some (zi l8), some (zr 2231), some (zr 2232), some (zr 2233), some (zi 0), some (zi 0), none, none, none, none, none, none, none, none, none, none]) (fun _ _ k => x_istore dXL_law_510 (by decide) rfl k) ?_
  refine XL.up (pc' := 513) (fun _ _ k => x_iload_n dXL_law_512 rfl rfl k) ?_
  refine XL.up (pc' := 515) (L' := [some (zr 1), some (zr 2), none, some (zi l3), some (zi l4), some (zr 2230), some (zi l6), some (zi l7), some (zi l8), some (zr 2231), some (zr 2232), some (zr 2233), some (zi 0), some (zi 0), some (zi l3), none, none, none, none, none, none, none, none, none]) (fun _ _ k => x_istore dXL_law_513 (by decide) rfl k) ?_
  exact h
set_option maxHeartbeats 4000000 in
set_option maxRecDepth 20000 in
theorem BL_515 {q : Nat × (Nat → Int)} {d : Nat} {K M : ZMem} (l3 : Int) (l4 : Int) (l6 : Int) (l7 : Int) (l8 : Int) (l12 : Int) (l13 : Int) (l14 : Int) (hq : ∀ j, inR (q.2 j)) (hq1 : q.1 ≤ 260) (hK : KW K M) (h0 : TopAt K 2) (h5 : mS K 2230 = (1, 3)) (h9 : mS K 2231 = (1, 400)) (h10 : mS K 2232 = (1, 400)) (h11 : mS K 2233 = (1, 400)) (h : ((l4 < l14 → (XL q (d + 1) 667 [some (zr 1), some (zr 2), none, some (zi l3), some (zi l4), none, none, none, none, some (zr 2231), some (zr 2232), some (zr 2233), some (zi l12), some (zi l13), none, none, none, none, none, none, none, none, none, none] [] M)) ∧ (¬ (l4 < l14) → (XL q (d + 1) 525 [some (zr 1), some (zr 2), none, some (zi l3), some (zi l4), some (zr 2230), some (zi l6), some (zi l7), some (zi l8), some (zr 2231), some (zr 2232), some (zr 2233), some (zi l12), some (zi l13), some (zi l14), some (zi 0), none, none, none, none, none, none, none, none] [] M)))) : XL q (d + 1) 515 [some (zr 1), some (zr 2), none, some (zi l3), some (zi l4), some (zr 2230), some (zi l6), some (zi l7), some (zi l8), some (zr 2231), some (zr 2232), some (zr 2233), some (zi l12), some (zi l13), some (zi l14), none, none, none, none, none, none, none, none, none] [] M := by
  refine XL.up (pc' := 517) (fun _ _ k => x_iload dXL_law_515 rfl k) ?_
  refine XL.up (pc' := 519) (fun _ _ k => x_iload dXL_law_517 rfl k) ?_
  refine XL.br (tgt := 667) (pc' := 522) (l4 < l14) (fun _ _ kt kf => x_icmp_gt dXL_law_519 rfl kt kf) (fun c => ?_) (fun c => ?_)
  · have h := h.1 c
    exact XL.less (L' := [some (zr 1), some (zr 2), none, some (zi l3), some (zi l4), none, none, none, none, some (zr 2231), some (zr 2232), some (zr 2233), some (zi l12), some (zi l13), none, none, none, none, none, none, none, none, none, none]) (⟨rfl, ⟨rfl, ⟨rfl, ⟨rfl, ⟨rfl, ⟨rfl, ⟨rfl, ⟨rfl, ⟨rfl, trivial⟩⟩⟩⟩⟩⟩⟩⟩⟩) h
  · have h := h.2 c
    refine XL.up (pc' := 523) (fun _ _ k => x_iconst dXL_law_522 (show inR 0 from ⟨by decide, by decide⟩) k) ?_
    refine XL.up (pc' := 525) (L' := [some (zr 1), some (zr 2), none, some (zi l3), some (zi l4), some (zr 2230), some (zi l6), some (zi l7), some (zi l8), some (zr 2231), some (zr 2232), some (zr 2233), some (zi l12), some (zi l13), some (zi l14), some (zi 0), none, none, none, none, none, none, none, none]) (fun _ _ k => x_istore dXL_law_523 (by decide) rfl k) ?_
    exact h
set_option maxHeartbeats 4000000 in
set_option maxRecDepth 20000 in
theorem BL_525 {q : Nat × (Nat → Int)} {d : Nat} {K M : ZMem} (l3 : Int) (l4 : Int) (l6 : Int) (l7 : Int) (l8 : Int) (l12 : Int) (l13 : Int) (l14 : Int) (l15 : Int) (hq : ∀ j, inR (q.2 j)) (hq1 : q.1 ≤ 260) (hK : KW K M) (h0 : TopAt K 2) (h5 : mS K 2230 = (1, 3)) (h9 : mS K 2231 = (1, 400)) (h10 : mS K 2232 = (1, 400)) (h11 : mS K 2233 = (1, 400)) (h : ((3 ≤ l15 → (XL q (d + 1) 661 [some (zr 1), some (zr 2), none, some (zi l3), some (zi l4), some (zr 2230), some (zi l6), some (zi l7), some (zi l8), some (zr 2231), some (zr 2232), some (zr 2233), some (zi l12), some (zi l13), some (zi l14), none, none, none, none, none, none, none, none, none] [] M)) ∧ (¬ (3 ≤ l15) → (XL q (d + 1) 535 [some (zr 1), some (zr 2), none, some (zi l3), some (zi l4), some (zr 2230), some (zi l6), some (zi l7), some (zi l8), some (zr 2231), some (zr 2232), some (zr 2233), some (zi l12), some (zi l13), some (zi l14), some (zi l15), some (zi (-2)), none, none, none, none, none, none, none] [] M)))) : XL q (d + 1) 525 [some (zr 1), some (zr 2), none, some (zi l3), some (zi l4), some (zr 2230), some (zi l6), some (zi l7), some (zi l8), some (zr 2231), some (zr 2232), some (zr 2233), some (zi l12), some (zi l13), some (zi l14), some (zi l15), none, none, none, none, none, none, none, none] [] M := by
  refine XL.up (pc' := 527) (fun _ _ k => x_iload dXL_law_525 rfl k) ?_
  refine XL.up (pc' := 528) (fun _ _ k => x_iconst dXL_law_527 (show inR 3 from ⟨by decide, by decide⟩) k) ?_
  refine XL.br (tgt := 661) (pc' := 531) (3 ≤ l15) (fun _ _ kt kf => x_icmp_ge dXL_law_528 rfl kt kf) (fun c => ?_) (fun c => ?_)
  · have h := h.1 c
    exact XL.less (L' := [some (zr 1), some (zr 2), none, some (zi l3), some (zi l4), some (zr 2230), some (zi l6), some (zi l7), some (zi l8), some (zr 2231), some (zr 2232), some (zr 2233), some (zi l12), some (zi l13), some (zi l14), none, none, none, none, none, none, none, none, none]) (⟨rfl, ⟨rfl, ⟨rfl, ⟨rfl, ⟨rfl, ⟨rfl, ⟨rfl, ⟨rfl, ⟨rfl, ⟨rfl, ⟨rfl, ⟨rfl, ⟨rfl, ⟨rfl, trivial⟩⟩⟩⟩⟩⟩⟩⟩⟩⟩⟩⟩⟩⟩) h
  · have h := h.2 c
    refine XL.up (pc' := 533) (fun _ _ k => x_bipush dXL_law_531 (show inR (-2) from ⟨by decide, by decide⟩) (by decide) k) ?_
    refine XL.up (pc' := 535) (L' := [some (zr 1), some (zr 2), none, some (zi l3), some (zi l4), some (zr 2230), some (zi l6), some (zi l7), some (zi l8), some (zr 2231), some (zr 2232), some (zr 2233), some (zi l12), some (zi l13), some (zi l14), some (zi l15), some (zi (-2)), none, none, none, none, none, none, none]) (fun _ _ k => x_istore dXL_law_533 (by decide) rfl k) ?_
    exact h
set_option maxHeartbeats 4000000 in
set_option maxRecDepth 20000 in
theorem BL_535 {q : Nat × (Nat → Int)} {d : Nat} {K M : ZMem} (l3 : Int) (l4 : Int) (l6 : Int) (l7 : Int) (l8 : Int) (l12 : Int) (l13 : Int) (l14 : Int) (l15 : Int) (l16 : Int) (hq : ∀ j, inR (q.2 j)) (hq1 : q.1 ≤ 260) (hK : KW K M) (h0 : TopAt K 2) (h5 : mS K 2230 = (1, 3)) (h9 : mS K 2231 = (1, 400)) (h10 : mS K 2232 = (1, 400)) (h11 : mS K 2233 = (1, 400)) (h : ((l14 < l16 → (XL q (d + 1) 655 [some (zr 1), some (zr 2), none, some (zi l3), some (zi l4), some (zr 2230), some (zi l6), some (zi l7), some (zi l8), some (zr 2231), some (zr 2232), some (zr 2233), some (zi l12), some (zi l13), some (zi l14), some (zi l15), none, none, none, none, none, none, none, none] [] M)) ∧ (¬ (l14 < l16) → ((0 ≤ l15) ∧ (l15 < 3) ∧ (inR ((mI M 2230 l15.toNat) * l6)) ∧ (inR (l14 + ((mI M 2230 l15.toNat) * l6))) ∧ (inR (l16 + l7)) ∧ (inR (l13 + 1)) ∧ ((l8 ≠ 0 → ((l8 ≠ 1 → ((l8 ≠ 2 → (((l14 + ((mI M 2230 l15.toNat) * l6)) ≠ (l16 + l7) → (XL q (d + 1) 622 [some (zr 1), some (zr 2), none, some (zi l3), some (zi l4), some (zr 2230), some (zi l6), some (zi l7), some (zi l8), some (zr 2231), some (zr 2232), some (zr 2233), some (zi l12), some (zi (l13 + 1)), some (zi l14), some (zi l15), some (zi l16), none, none, none, none, none, none, none] [] M)) ∧ (¬ ((l14 + ((mI M 2230 l15.toNat) * l6)) ≠ (l16 + l7)) → (XL q (d + 1) 649 [some (zr 1), some (zr 2), none, some (zi l3), some (zi l4), some (zr 2230), some (zi l6), some (zi l7), some (zi l8), some (zr 2231), some (zr 2232), some (zr 2233), some (zi l12), some (zi (l13 + 1)), some (zi l14), some (zi l15), some (zi l16), none, none, none, none, none, none, none] [] M)))) ∧ (¬ (l8 ≠ 2) → (((l14 + ((mI M 2230 l15.toNat) * l6)) ≤ (l16 + l7) → (XL q (d + 1) 649 [some (zr 1), some (zr 2), none, some (zi l3), some (zi l4), some (zr 2230), some (zi l6), some (zi l7), some (zi l8), some (zr 2231), some (zr 2232), some (zr 2233), some (zi l12), some (zi (l13 + 1)), some (zi l14), some (zi l15), some (zi l16), none, none, none, none, none, none, none] [] M)) ∧ (¬ ((l14 + ((mI M 2230 l15.toNat) * l6)) ≤ (l16 + l7)) → (XL q (d + 1) 622 [some (zr 1), some (zr 2), none, some (zi l3), some (zi l4), some (zr 2230), some (zi l6), some (zi l7), some (zi l8), some (zr 2231), some (zr 2232), some (zr 2233), some (zi l12), some (zi (l13 + 1)), some (zi l14), some (zi l15), some (zi l16), none, none, none, none, none, none, none] [] M)))))) ∧ (¬ (l8 ≠ 1) → (((l16 + l7) ≤ (l14 + ((mI M 2230 l15.toNat) * l6)) → (XL q (d + 1) 649 [some (zr 1), some (zr 2), none, some (zi l3), some (zi l4), some (zr 2230), some (zi l6), some (zi l7), some (zi l8), some (zr 2231), some (zr 2232), some (zr 2233), some (zi l12), some (zi (l13 + 1)), some (zi l14), some (zi l15), some (zi l16), none, none, none, none, none, none, none] [] M)) ∧ (¬ ((l16 + l7) ≤ (l14 + ((mI M 2230 l15.toNat) * l6))) → (XL q (d + 1) 622 [some (zr 1), some (zr 2), none, some (zi l3), some (zi l4), some (zr 2230), some (zi l6), some (zi l7), some (zi l8), some (zr 2231), some (zr 2232), some (zr 2233), some (zi l12), some (zi (l13 + 1)), some (zi l14), some (zi l15), some (zi l16), none, none, none, none, none, none, none] [] M)))))) ∧ (¬ (l8 ≠ 0) → (((l14 + ((mI M 2230 l15.toNat) * l6)) ≠ (l16 + l7) → (XL q (d + 1) 649 [some (zr 1), some (zr 2), none, some (zi l3), some (zi l4), some (zr 2230), some (zi l6), some (zi l7), some (zi l8), some (zr 2231), some (zr 2232), some (zr 2233), some (zi l12), some (zi (l13 + 1)), some (zi l14), some (zi l15), some (zi l16), none, none, none, none, none, none, none] [] M)) ∧ (¬ ((l14 + ((mI M 2230 l15.toNat) * l6)) ≠ (l16 + l7)) → (XL q (d + 1) 622 [some (zr 1), some (zr 2), none, some (zi l3), some (zi l4), some (zr 2230), some (zi l6), some (zi l7), some (zi l8), some (zr 2231), some (zr 2232), some (zr 2233), some (zi l12), some (zi (l13 + 1)), some (zi l14), some (zi l15), some (zi l16), none, none, none, none, none, none, none] [] M))))))))) : XL q (d + 1) 535 [some (zr 1), some (zr 2), none, some (zi l3), some (zi l4), some (zr 2230), some (zi l6), some (zi l7), some (zi l8), some (zr 2231), some (zr 2232), some (zr 2233), some (zi l12), some (zi l13), some (zi l14), some (zi l15), some (zi l16), none, none, none, none, none, none, none] [] M := by
  refine XL.up (pc' := 537) (fun _ _ k => x_iload dXL_law_535 rfl k) ?_
  refine XL.up (pc' := 539) (fun _ _ k => x_iload dXL_law_537 rfl k) ?_
  refine XL.br (tgt := 655) (pc' := 542) (l14 < l16) (fun _ _ kt kf => x_icmp_gt dXL_law_539 rfl kt kf) (fun c => ?_) (fun c => ?_)
  · have h := h.1 c
    exact XL.less (L' := [some (zr 1), some (zr 2), none, some (zi l3), some (zi l4), some (zr 2230), some (zi l6), some (zi l7), some (zi l8), some (zr 2231), some (zr 2232), some (zr 2233), some (zi l12), some (zi l13), some (zi l14), some (zi l15), none, none, none, none, none, none, none, none]) (⟨rfl, ⟨rfl, ⟨rfl, ⟨rfl, ⟨rfl, ⟨rfl, ⟨rfl, ⟨rfl, ⟨rfl, ⟨rfl, ⟨rfl, ⟨rfl, ⟨rfl, ⟨rfl, ⟨rfl, trivial⟩⟩⟩⟩⟩⟩⟩⟩⟩⟩⟩⟩⟩⟩⟩) h
  · have h := h.2 c
    refine XL.up (pc' := 544) (fun _ _ k => x_iload dXL_law_542 rfl k) ?_
    refine XL.up (pc' := 546) (fun _ _ k => x_aload dXL_law_544 rfl k) ?_
    refine XL.up (pc' := 548) (fun _ _ k => x_iload dXL_law_546 rfl k) ?_
    obtain ⟨g1, h⟩ := h
    obtain ⟨g2, h⟩ := h
    refine XL.up (pc' := 549) (fun _ _ k => x_ialoadK hK dXL_law_548 h5 g1 g2 k) ?_
    refine XL.up (pc' := 551) (fun _ _ k => x_iload dXL_law_549 rfl k) ?_
    obtain ⟨g3, h⟩ := h
    refine XL.up (pc' := 552) (fun _ _ k => x_imul dXL_law_551 g3 k) ?_
    obtain ⟨g4, h⟩ := h
    refine XL.up (pc' := 553) (fun _ _ k => x_iadd dXL_law_552 g4 k) ?_
    refine XL.up (pc' := 555) (L' := [some (zr 1), some (zr 2), none, some (zi l3), some (zi l4), some (zr 2230), some (zi l6), some (zi l7), some (zi l8), some (zr 2231), some (zr 2232), some (zr 2233), some (zi l12), some (zi l13), some (zi l14), some (zi l15), some (zi l16), some (zi (l14 + ((mI M 2230 l15.toNat) * l6))), none, none, none, none, none, none]) (fun _ _ k => x_istore dXL_law_553 (by decide) rfl k) ?_
    refine XL.up (pc' := 557) (fun _ _ k => x_iload dXL_law_555 rfl k) ?_
    refine XL.up (pc' := 559) (fun _ _ k => x_iload dXL_law_557 rfl k) ?_
    obtain ⟨g5, h⟩ := h
    refine XL.up (pc' := 560) (fun _ _ k => x_iadd dXL_law_559 g5 k) ?_
    refine XL.up (pc' := 562) (L' := [some (zr 1), some (zr 2), none, some (zi l3), some (zi l4), some (zr 2230), some (zi l6), some (zi l7), some (zi l8), some (zr 2231), some (zr 2232), some (zr 2233), some (zi l12), some (zi l13), some (zi l14), some (zi l15), some (zi l16), some (zi (l14 + ((mI M 2230 l15.toNat) * l6))), some (zi (l16 + l7)), none, none, none, none, none]) (fun _ _ k => x_istore dXL_law_560 (by decide) rfl k) ?_
    obtain ⟨g6, h⟩ := h
    refine XL.up (pc' := 565) (L' := [some (zr 1), some (zr 2), none, some (zi l3), some (zi l4), some (zr 2230), some (zi l6), some (zi l7), some (zi l8), some (zr 2231), some (zr 2232), some (zr 2233), some (zi l12), some (zi (l13 + 1)), some (zi l14), some (zi l15), some (zi l16), some (zi (l14 + ((mI M 2230 l15.toNat) * l6))), some (zi (l16 + l7)), none, none, none, none, none]) (fun _ _ k => x_iinc dXL_law_562 rfl g6 (by decide) rfl k) ?_
    refine XL.up (pc' := 567) (fun _ _ k => x_iload dXL_law_565 rfl k) ?_
    refine XL.br (tgt := 580) (pc' := 570) (l8 ≠ 0) (fun _ _ kt kf => x_if_ne dXL_law_567 rfl kt kf) (fun c => ?_) (fun c => ?_)
    · have h := h.1 c
      refine XL.up (pc' := 582) (fun _ _ k => x_iload dXL_law_580 rfl k) ?_
      refine XL.up (pc' := 583) (fun _ _ k => x_iconst dXL_law_582 (show inR 1 from ⟨by decide, by decide⟩) k) ?_
      refine XL.br (tgt := 596) (pc' := 586) (l8 ≠ 1) (fun _ _ kt kf => x_icmp_ne dXL_law_583 rfl kt kf) (fun c => ?_) (fun c => ?_)
      · have h := h.1 c
        refine XL.up (pc' := 598) (fun _ _ k => x_iload dXL_law_596 rfl k) ?_
        refine XL.up (pc' := 599) (fun _ _ k => x_iconst dXL_law_598 (show inR 2 from ⟨by decide, by decide⟩) k) ?_
        refine XL.br (tgt := 612) (pc' := 602) (l8 ≠ 2) (fun _ _ kt kf => x_icmp_ne dXL_law_599 rfl kt kf) (fun c => ?_) (fun c => ?_)
        · have h := h.1 c
          refine XL.up (pc' := 614) (fun _ _ k => x_iload dXL_law_612 rfl k) ?_
          refine XL.up (pc' := 616) (fun _ _ k => x_iload dXL_law_614 rfl k) ?_
          refine XL.br (tgt := 622) (pc' := 619) ((l14 + ((mI M 2230 l15.toNat) * l6)) ≠ (l16 + l7)) (fun _ _ kt kf => x_icmp_ne dXL_law_616 rfl kt kf) (fun c => ?_) (fun c => ?_)
          · have h := h.1 c
            exact XL.less (L' := [some (zr 1), some (zr 2), none, some (zi l3), some (zi l4), some (zr 2230), some (zi l6), some (zi l7), some (zi l8), some (zr 2231), some (zr 2232), some (zr 2233), some (zi l12), some (zi (l13 + 1)), some (zi l14), some (zi l15), some (zi l16), none, none, none, none, none, none, none]) (⟨rfl, ⟨rfl, ⟨rfl, ⟨rfl, ⟨rfl, ⟨rfl, ⟨rfl, ⟨rfl, ⟨rfl, ⟨rfl, ⟨rfl, ⟨rfl, ⟨rfl, ⟨rfl, ⟨rfl, ⟨rfl, trivial⟩⟩⟩⟩⟩⟩⟩⟩⟩⟩⟩⟩⟩⟩⟩⟩) h
          · have h := h.2 c
            refine XL.up (pc' := 649) (fun _ _ k => x_goto dXL_law_619 rfl k) ?_
            exact XL.less (L' := [some (zr 1), some (zr 2), none, some (zi l3), some (zi l4), some (zr 2230), some (zi l6), some (zi l7), some (zi l8), some (zr 2231), some (zr 2232), some (zr 2233), some (zi l12), some (zi (l13 + 1)), some (zi l14), some (zi l15), some (zi l16), none, none, none, none, none, none, none]) (⟨rfl, ⟨rfl, ⟨rfl, ⟨rfl, ⟨rfl, ⟨rfl, ⟨rfl, ⟨rfl, ⟨rfl, ⟨rfl, ⟨rfl, ⟨rfl, ⟨rfl, ⟨rfl, ⟨rfl, ⟨rfl, trivial⟩⟩⟩⟩⟩⟩⟩⟩⟩⟩⟩⟩⟩⟩⟩⟩) h
        · have h := h.2 c
          refine XL.up (pc' := 604) (fun _ _ k => x_iload dXL_law_602 rfl k) ?_
          refine XL.up (pc' := 606) (fun _ _ k => x_iload dXL_law_604 rfl k) ?_
          refine XL.br (tgt := 649) (pc' := 609) ((l14 + ((mI M 2230 l15.toNat) * l6)) ≤ (l16 + l7)) (fun _ _ kt kf => x_icmp_le dXL_law_606 rfl kt kf) (fun c => ?_) (fun c => ?_)
          · have h := h.1 c
            exact XL.less (L' := [some (zr 1), some (zr 2), none, some (zi l3), some (zi l4), some (zr 2230), some (zi l6), some (zi l7), some (zi l8), some (zr 2231), some (zr 2232), some (zr 2233), some (zi l12), some (zi (l13 + 1)), some (zi l14), some (zi l15), some (zi l16), none, none, none, none, none, none, none]) (⟨rfl, ⟨rfl, ⟨rfl, ⟨rfl, ⟨rfl, ⟨rfl, ⟨rfl, ⟨rfl, ⟨rfl, ⟨rfl, ⟨rfl, ⟨rfl, ⟨rfl, ⟨rfl, ⟨rfl, ⟨rfl, trivial⟩⟩⟩⟩⟩⟩⟩⟩⟩⟩⟩⟩⟩⟩⟩⟩) h
          · have h := h.2 c
            refine XL.up (pc' := 622) (fun _ _ k => x_goto dXL_law_609 rfl k) ?_
            exact XL.less (L' := [some (zr 1), some (zr 2), none, some (zi l3), some (zi l4), some (zr 2230), some (zi l6), some (zi l7), some (zi l8), some (zr 2231), some (zr 2232), some (zr 2233), some (zi l12), some (zi (l13 + 1)), some (zi l14), some (zi l15), some (zi l16), none, none, none, none, none, none, none]) (⟨rfl, ⟨rfl, ⟨rfl, ⟨rfl, ⟨rfl, ⟨rfl, ⟨rfl, ⟨rfl, ⟨rfl, ⟨rfl, ⟨rfl, ⟨rfl, ⟨rfl, ⟨rfl, ⟨rfl, ⟨rfl, trivial⟩⟩⟩⟩⟩⟩⟩⟩⟩⟩⟩⟩⟩⟩⟩⟩) h
      · have h := h.2 c
        refine XL.up (pc' := 588) (fun _ _ k => x_iload dXL_law_586 rfl k) ?_
        refine XL.up (pc' := 590) (fun _ _ k => x_iload dXL_law_588 rfl k) ?_
        refine XL.br (tgt := 649) (pc' := 593) ((l16 + l7) ≤ (l14 + ((mI M 2230 l15.toNat) * l6))) (fun _ _ kt kf => x_icmp_ge dXL_law_590 rfl kt kf) (fun c => ?_) (fun c => ?_)
        · have h := h.1 c
          exact XL.less (L' := [some (zr 1), some (zr 2), none, some (zi l3), some (zi l4), some (zr 2230), some (zi l6), some (zi l7), some (zi l8), some (zr 2231), some (zr 2232), some (zr 2233), some (zi l12), some (zi (l13 + 1)), some (zi l14), some (zi l15), some (zi l16), none, none, none, none, none, none, none]) (⟨rfl, ⟨rfl, ⟨rfl, ⟨rfl, ⟨rfl, ⟨rfl, ⟨rfl, ⟨rfl, ⟨rfl, ⟨rfl, ⟨rfl, ⟨rfl, ⟨rfl, ⟨rfl, ⟨rfl, ⟨rfl, trivial⟩⟩⟩⟩⟩⟩⟩⟩⟩⟩⟩⟩⟩⟩⟩⟩) h
        · have h := h.2 c
          refine XL.up (pc' := 622) (fun _ _ k => x_goto dXL_law_593 rfl k) ?_
          exact XL.less (L' := [some (zr 1), some (zr 2), none, some (zi l3), some (zi l4), some (zr 2230), some (zi l6), some (zi l7), some (zi l8), some (zr 2231), some (zr 2232), some (zr 2233), some (zi l12), some (zi (l13 + 1)), some (zi l14), some (zi l15), some (zi l16), none, none, none, none, none, none, none]) (⟨rfl, ⟨rfl, ⟨rfl, ⟨rfl, ⟨rfl, ⟨rfl, ⟨rfl, ⟨rfl, ⟨rfl, ⟨rfl, ⟨rfl, ⟨rfl, ⟨rfl, ⟨rfl, ⟨rfl, ⟨rfl, trivial⟩⟩⟩⟩⟩⟩⟩⟩⟩⟩⟩⟩⟩⟩⟩⟩) h
    · have h := h.2 c
      refine XL.up (pc' := 572) (fun _ _ k => x_iload dXL_law_570 rfl k) ?_
      refine XL.up (pc' := 574) (fun _ _ k => x_iload dXL_law_572 rfl k) ?_
      refine XL.br (tgt := 649) (pc' := 577) ((l14 + ((mI M 2230 l15.toNat) * l6)) ≠ (l16 + l7)) (fun _ _ kt kf => x_icmp_ne dXL_law_574 rfl kt kf) (fun c => ?_) (fun c => ?_)
      · have h := h.1 c
        exact XL.less (L' := [some (zr 1), some (zr 2), none, some (zi l3), some (zi l4), some (zr 2230), some (zi l6), some (zi l7), some (zi l8), some (zr 2231), some (zr 2232), some (zr 2233), some (zi l12), some (zi (l13 + 1)), some (zi l14), some (zi l15), some (zi l16), none, none, none, none, none, none, none]) (⟨rfl, ⟨rfl, ⟨rfl, ⟨rfl, ⟨rfl, ⟨rfl, ⟨rfl, ⟨rfl, ⟨rfl, ⟨rfl, ⟨rfl, ⟨rfl, ⟨rfl, ⟨rfl, ⟨rfl, ⟨rfl, trivial⟩⟩⟩⟩⟩⟩⟩⟩⟩⟩⟩⟩⟩⟩⟩⟩) h
      · have h := h.2 c
        refine XL.up (pc' := 622) (fun _ _ k => x_goto dXL_law_577 rfl k) ?_
        exact XL.less (L' := [some (zr 1), some (zr 2), none, some (zi l3), some (zi l4), some (zr 2230), some (zi l6), some (zi l7), some (zi l8), some (zr 2231), some (zr 2232), some (zr 2233), some (zi l12), some (zi (l13 + 1)), some (zi l14), some (zi l15), some (zi l16), none, none, none, none, none, none, none]) (⟨rfl, ⟨rfl, ⟨rfl, ⟨rfl, ⟨rfl, ⟨rfl, ⟨rfl, ⟨rfl, ⟨rfl, ⟨rfl, ⟨rfl, ⟨rfl, ⟨rfl, ⟨rfl, ⟨rfl, ⟨rfl, trivial⟩⟩⟩⟩⟩⟩⟩⟩⟩⟩⟩⟩⟩⟩⟩⟩) h
set_option maxHeartbeats 4000000 in
set_option maxRecDepth 20000 in
theorem BL_622 {q : Nat × (Nat → Int)} {d : Nat} {K M : ZMem} (l3 : Int) (l4 : Int) (l6 : Int) (l7 : Int) (l8 : Int) (l12 : Int) (l13 : Int) (l14 : Int) (l15 : Int) (l16 : Int) (hq : ∀ j, inR (q.2 j)) (hq1 : q.1 ≤ 260) (hK : KW K M) (h0 : TopAt K 2) (h5 : mS K 2230 = (1, 3)) (h9 : mS K 2231 = (1, 400)) (h10 : mS K 2232 = (1, 400)) (h11 : mS K 2233 = (1, 400)) (h : (0 ≤ l12) ∧ (l12 < 400) ∧ (0 ≤ l15) ∧ (l15 < 3) ∧ (0 ≤ l12) ∧ (l12 < 400) ∧ (inR (l12 + 1)) ∧ (0 ≤ l12) ∧ (l12 < 400) ∧ XL q (d + 1) 649 [some (zr 1), some (zr 2), none, some (zi l3), some (zi l4), some (zr 2230), some (zi l6), some (zi l7), some (zi l8), some (zr 2231), some (zr 2232), some (zr 2233), some (zi (l12 + 1)), some (zi l13), some (zi l14), some (zi l15), some (zi l16), none, none, none, none, none, none, none] [] (sI (sI (sI M 2231 l12.toNat l14) 2232 l12.toNat (mI (sI M 2231 l12.toNat l14) 2230 l15.toNat)) 2233 l12.toNat l16)) : XL q (d + 1) 622 [some (zr 1), some (zr 2), none, some (zi l3), some (zi l4), some (zr 2230), some (zi l6), some (zi l7), some (zi l8), some (zr 2231), some (zr 2232), some (zr 2233), some (zi l12), some (zi l13), some (zi l14), some (zi l15), some (zi l16), none, none, none, none, none, none, none] [] M := by
  refine XL.up (pc' := 624) (fun _ _ k => x_aload dXL_law_622 rfl k) ?_
  refine XL.up (pc' := 626) (fun _ _ k => x_iload dXL_law_624 rfl k) ?_
  refine XL.up (pc' := 628) (fun _ _ k => x_iload dXL_law_626 rfl k) ?_
  obtain ⟨g1, h⟩ := h
  obtain ⟨g2, h⟩ := h
  refine XL.up (pc' := 629) (fun _ _ k => x_iastoreK hK dXL_law_628 h9 g1 g2 k) ?_
  have hK3 := KW.sI hK 2231 l12.toNat l14
  refine XL.up (pc' := 631) (fun _ _ k => x_aload dXL_law_629 rfl k) ?_
  refine XL.up (pc' := 633) (fun _ _ k => x_iload dXL_law_631 rfl k) ?_
  refine XL.up (pc' := 635) (fun _ _ k => x_aload dXL_law_633 rfl k) ?_
  refine XL.up (pc' := 637) (fun _ _ k => x_iload dXL_law_635 rfl k) ?_
  obtain ⟨g4, h⟩ := h
  obtain ⟨g5, h⟩ := h
  refine XL.up (pc' := 638) (fun _ _ k => x_ialoadK hK3 dXL_law_637 h5 g4 g5 k) ?_
  obtain ⟨g6, h⟩ := h
  obtain ⟨g7, h⟩ := h
  refine XL.up (pc' := 639) (fun _ _ k => x_iastoreK hK3 dXL_law_638 h10 g6 g7 k) ?_
  have hK8 := KW.sI hK3 2232 l12.toNat (mI (sI M 2231 l12.toNat l14) 2230 l15.toNat)
  refine XL.up (pc' := 641) (fun _ _ k => x_aload dXL_law_639 rfl k) ?_
  refine XL.up (pc' := 643) (fun _ _ k => x_iload dXL_law_641 rfl k) ?_
  obtain ⟨g9, h⟩ := h
  refine XL.up (pc' := 646) (L' := [some (zr 1), some (zr 2), none, some (zi l3), some (zi l4), some (zr 2230), some (zi l6), some (zi l7), some (zi l8), some (zr 2231), some (zr 2232), some (zr 2233), some (zi (l12 + 1)), some (zi l13), some (zi l14), some (zi l15), some (zi l16), none, none, none, none, none, none, none]) (fun _ _ k => x_iinc dXL_law_643 rfl g9 (by decide) rfl k) ?_
  refine XL.up (pc' := 648) (fun _ _ k => x_iload dXL_law_646 rfl k) ?_
  obtain ⟨g10, h⟩ := h
  obtain ⟨g11, h⟩ := h
  refine XL.up (pc' := 649) (fun _ _ k => x_iastoreK hK8 dXL_law_648 h11 g10 g11 k) ?_
  have hK12 := KW.sI hK8 2233 l12.toNat l16
  exact h
set_option maxHeartbeats 4000000 in
set_option maxRecDepth 20000 in
theorem BL_649 {q : Nat × (Nat → Int)} {d : Nat} {K M : ZMem} (l3 : Int) (l4 : Int) (l6 : Int) (l7 : Int) (l8 : Int) (l12 : Int) (l13 : Int) (l14 : Int) (l15 : Int) (l16 : Int) (hq : ∀ j, inR (q.2 j)) (hq1 : q.1 ≤ 260) (hK : KW K M) (h0 : TopAt K 2) (h5 : mS K 2230 = (1, 3)) (h9 : mS K 2231 = (1, 400)) (h10 : mS K 2232 = (1, 400)) (h11 : mS K 2233 = (1, 400)) (h : (inR (l16 + 1)) ∧ XL q (d + 1) 535 [some (zr 1), some (zr 2), none, some (zi l3), some (zi l4), some (zr 2230), some (zi l6), some (zi l7), some (zi l8), some (zr 2231), some (zr 2232), some (zr 2233), some (zi l12), some (zi l13), some (zi l14), some (zi l15), some (zi (l16 + 1)), none, none, none, none, none, none, none] [] M) : XL q (d + 1) 649 [some (zr 1), some (zr 2), none, some (zi l3), some (zi l4), some (zr 2230), some (zi l6), some (zi l7), some (zi l8), some (zr 2231), some (zr 2232), some (zr 2233), some (zi l12), some (zi l13), some (zi l14), some (zi l15), some (zi l16), none, none, none, none, none, none, none] [] M := by
  obtain ⟨g1, h⟩ := h
  refine XL.up (pc' := 652) (L' := [some (zr 1), some (zr 2), none, some (zi l3), some (zi l4), some (zr 2230), some (zi l6), some (zi l7), some (zi l8), some (zr 2231), some (zr 2232), some (zr 2233), some (zi l12), some (zi l13), some (zi l14), some (zi l15), some (zi (l16 + 1)), none, none, none, none, none, none, none]) (fun _ _ k => x_iinc dXL_law_649 rfl g1 (by decide) rfl k) ?_
  refine XL.up (pc' := 535) (fun _ _ k => x_goto dXL_law_652 rfl k) ?_
  exact h
set_option maxHeartbeats 4000000 in
set_option maxRecDepth 20000 in
theorem BL_655 {q : Nat × (Nat → Int)} {d : Nat} {K M : ZMem} (l3 : Int) (l4 : Int) (l6 : Int) (l7 : Int) (l8 : Int) (l12 : Int) (l13 : Int) (l14 : Int) (l15 : Int) (hq : ∀ j, inR (q.2 j)) (hq1 : q.1 ≤ 260) (hK : KW K M) (h0 : TopAt K 2) (h5 : mS K 2230 = (1, 3)) (h9 : mS K 2231 = (1, 400)) (h10 : mS K 2232 = (1, 400)) (h11 : mS K 2233 = (1, 400)) (h : (inR (l15 + 1)) ∧ XL q (d + 1) 525 [some (zr 1), some (zr 2), none, some (zi l3), some (zi l4), some (zr 2230), some (zi l6), some (zi l7), some (zi l8), some (zr 2231), some (zr 2232), some (zr 2233), some (zi l12), some (zi l13), some (zi l14), some (zi (l15 + 1)), none, none, none, none, none, none, none, none] [] M) : XL q (d + 1) 655 [some (zr 1), some (zr 2), none, some (zi l3), some (zi l4), some (zr 2230), some (zi l6), some (zi l7), some (zi l8), some (zr 2231), some (zr 2232), some (zr 2233), some (zi l12), some (zi l13), some (zi l14), some (zi l15), none, none, none, none, none, none, none, none] [] M := by
  obtain ⟨g1, h⟩ := h
  refine XL.up (pc' := 658) (L' := [some (zr 1), some (zr 2), none, some (zi l3), some (zi l4), some (zr 2230), some (zi l6), some (zi l7), some (zi l8), some (zr 2231), some (zr 2232), some (zr 2233), some (zi l12), some (zi l13), some (zi l14), some (zi (l15 + 1)), none, none, none, none, none, none, none, none]) (fun _ _ k => x_iinc dXL_law_655 rfl g1 (by decide) rfl k) ?_
  refine XL.up (pc' := 525) (fun _ _ k => x_goto dXL_law_658 rfl k) ?_
  exact h
set_option maxHeartbeats 4000000 in
set_option maxRecDepth 20000 in
theorem BL_661 {q : Nat × (Nat → Int)} {d : Nat} {K M : ZMem} (l3 : Int) (l4 : Int) (l6 : Int) (l7 : Int) (l8 : Int) (l12 : Int) (l13 : Int) (l14 : Int) (hq : ∀ j, inR (q.2 j)) (hq1 : q.1 ≤ 260) (hK : KW K M) (h0 : TopAt K 2) (h5 : mS K 2230 = (1, 3)) (h9 : mS K 2231 = (1, 400)) (h10 : mS K 2232 = (1, 400)) (h11 : mS K 2233 = (1, 400)) (h : (inR (l14 + 1)) ∧ XL q (d + 1) 515 [some (zr 1), some (zr 2), none, some (zi l3), some (zi l4), some (zr 2230), some (zi l6), some (zi l7), some (zi l8), some (zr 2231), some (zr 2232), some (zr 2233), some (zi l12), some (zi l13), some (zi (l14 + 1)), none, none, none, none, none, none, none, none, none] [] M) : XL q (d + 1) 661 [some (zr 1), some (zr 2), none, some (zi l3), some (zi l4), some (zr 2230), some (zi l6), some (zi l7), some (zi l8), some (zr 2231), some (zr 2232), some (zr 2233), some (zi l12), some (zi l13), some (zi l14), none, none, none, none, none, none, none, none, none] [] M := by
  obtain ⟨g1, h⟩ := h
  refine XL.up (pc' := 664) (L' := [some (zr 1), some (zr 2), none, some (zi l3), some (zi l4), some (zr 2230), some (zi l6), some (zi l7), some (zi l8), some (zr 2231), some (zr 2232), some (zr 2233), some (zi l12), some (zi l13), some (zi (l14 + 1)), none, none, none, none, none, none, none, none, none]) (fun _ _ k => x_iinc dXL_law_661 rfl g1 (by decide) rfl k) ?_
  refine XL.up (pc' := 515) (fun _ _ k => x_goto dXL_law_664 rfl k) ?_
  exact h
set_option maxHeartbeats 4000000 in
set_option maxRecDepth 20000 in
theorem BL_667 {q : Nat × (Nat → Int)} {d : Nat} {K M : ZMem} (l3 : Int) (l4 : Int) (l12 : Int) (l13 : Int) (hq : ∀ j, inR (q.2 j)) (hq1 : q.1 ≤ 260) (hK : KW K M) (h0 : TopAt K 2) (h9 : mS K 2231 = (1, 400)) (h10 : mS K 2232 = (1, 400)) (h11 : mS K 2233 = (1, 400)) (h : XL q (d + 1) 670 [some (zr 1), some (zr 2), none, some (zi l3), some (zi l4), none, none, none, none, some (zr 2231), some (zr 2232), some (zr 2233), some (zi l12), some (zi l13), some (zi 0), none, none, none, none, none, none, none, none, none] [] M) : XL q (d + 1) 667 [some (zr 1), some (zr 2), none, some (zi l3), some (zi l4), none, none, none, none, some (zr 2231), some (zr 2232), some (zr 2233), some (zi l12), some (zi l13), none, none, none, none, none, none, none, none, none, none] [] M := by
  refine XL.up (pc' := 668) (fun _ _ k => x_iconst dXL_law_667 (show inR 0 from ⟨by decide, by decide⟩) k) ?_
  refine XL.up (pc' := 670) (L' := [some (zr 1), some (zr 2), none, some (zi l3), some (zi l4), none, none, none, none, some (zr 2231), some (zr 2232), some (zr 2233), some (zi l12), some (zi l13), some (zi 0), none, none, none, none, none, none, none, none, none]) (fun _ _ k => x_istore dXL_law_668 (by decide) rfl k) ?_
  exact h
set_option maxHeartbeats 4000000 in
set_option maxRecDepth 20000 in
theorem BL_670 {q : Nat × (Nat → Int)} {d : Nat} {K M : ZMem} (l3 : Int) (l4 : Int) (l12 : Int) (l13 : Int) (l14 : Int) (hq : ∀ j, inR (q.2 j)) (hq1 : q.1 ≤ 260) (hK : KW K M) (h0 : TopAt K 2) (h9 : mS K 2231 = (1, 400)) (h10 : mS K 2232 = (1, 400)) (h11 : mS K 2233 = (1, 400)) (h : ((6 ≤ l14 → (XL q (d + 1) 1376 [none, some (zr 2), none, none, none, none, none, none, none, none, none, none, some (zi l12), none, none, none, none, none, none, none, none, none, none, none] [] M)) ∧ (¬ (6 ≤ l14) → (XL q (d + 1) 683 [some (zr 1), some (zr 2), none, some (zi l3), some (zi l4), none, none, none, none, some (zr 2231), some (zr 2232), some (zr 2233), some (zi l12), some (zi l13), some (zi l14), some (zi (zAnd l14 3)), none, none, none, none, none, none, none, none] [] M)))) : XL q (d + 1) 670 [some (zr 1), some (zr 2), none, some (zi l3), some (zi l4), none, none, none, none, some (zr 2231), some (zr 2232), some (zr 2233), some (zi l12), some (zi l13), some (zi l14), none, none, none, none, none, none, none, none, none] [] M := by
  refine XL.up (pc' := 672) (fun _ _ k => x_iload dXL_law_670 rfl k) ?_
  refine XL.up (pc' := 674) (fun _ _ k => x_bipush dXL_law_672 (show inR 6 from ⟨by decide, by decide⟩) (by decide) k) ?_
  refine XL.br (tgt := 1376) (pc' := 677) (6 ≤ l14) (fun _ _ kt kf => x_icmp_ge dXL_law_674 rfl kt kf) (fun c => ?_) (fun c => ?_)
  · have h := h.1 c
    exact XL.less (L' := [none, some (zr 2), none, none, none, none, none, none, none, none, none, none, some (zi l12), none, none, none, none, none, none, none, none, none, none, none]) (⟨rfl, ⟨rfl, trivial⟩⟩) h
  · have h := h.2 c
    refine XL.up (pc' := 679) (fun _ _ k => x_iload dXL_law_677 rfl k) ?_
    refine XL.up (pc' := 680) (fun _ _ k => x_iconst dXL_law_679 (show inR 3 from ⟨by decide, by decide⟩) k) ?_
    refine XL.up (pc' := 681) (fun _ _ k => x_iandK dXL_law_680 k) ?_
    refine XL.up (pc' := 683) (L' := [some (zr 1), some (zr 2), none, some (zi l3), some (zi l4), none, none, none, none, some (zr 2231), some (zr 2232), some (zr 2233), some (zi l12), some (zi l13), some (zi l14), some (zi (zAnd l14 3)), none, none, none, none, none, none, none, none]) (fun _ _ k => x_istore dXL_law_681 (by decide) rfl k) ?_
    exact h
set_option maxHeartbeats 4000000 in
set_option maxRecDepth 20000 in
theorem BL_683 {q : Nat × (Nat → Int)} {d : Nat} {K M : ZMem} (l3 : Int) (l4 : Int) (l12 : Int) (l13 : Int) (l14 : Int) (l15 : Int) (hq : ∀ j, inR (q.2 j)) (hq1 : q.1 ≤ 260) (hK : KW K M) (h0 : TopAt K 2) (h9 : mS K 2231 = (1, 400)) (h10 : mS K 2232 = (1, 400)) (h11 : mS K 2233 = (1, 400)) (h : Ci d q9_begin [zr 2, zi l15, zi 0, zi l14] M (fun x2 M1 => KW K M1 ∧ ((x2 ≠ 1 → (False)) ∧ (¬ (x2 ≠ 1) → (Ci d q9_of [zr 2, zi l15, zi 0] M1 (fun x6 M5 => KW K M5 ∧ ((x6 ≠ 1 → (False)) ∧ (¬ (x6 ≠ 1) → (Ci d q9_next [zr 2, zi l15] M5 (fun x10 M9 => KW K M9 ∧ ((x10 = (-2002) → (XL q (d + 1) 721 [some (zr 1), some (zr 2), none, some (zi l3), some (zi l4), none, none, none, none, some (zr 2231), some (zr 2232), some (zr 2233), some (zi l12), some (zi l13), some (zi l14), some (zi l15), none, none, none, none, none, none, none, none] [] M9)) ∧ (¬ (x10 = (-2002)) → (False))))))))))))) : XL q (d + 1) 683 [some (zr 1), some (zr 2), none, some (zi l3), some (zi l4), none, none, none, none, some (zr 2231), some (zr 2232), some (zr 2233), some (zi l12), some (zi l13), some (zi l14), some (zi l15), none, none, none, none, none, none, none, none] [] M := by
  refine XL.up (pc' := 684) (fun _ _ k => x_aload_n dXL_law_683 rfl rfl k) ?_
  refine XL.up (pc' := 686) (fun _ _ k => x_iload dXL_law_684 rfl k) ?_
  refine XL.up (pc' := 687) (fun _ _ k => x_iconst dXL_law_686 (show inR 0 from ⟨by decide, by decide⟩) k) ?_
  refine XL.up (pc' := 689) (fun _ _ k => x_iload dXL_law_687 rfl k) ?_
  obtain ⟨x2, M1, hc4, hK3, h⟩ := h
  refine XL.up (pc' := 692) (st' := [zi x2]) (fun _ _ k => x_callVK (ci := 9) (as := [zi l15, zi 0, zi l14]) (st := []) hK k9_begin lmL_31 dXL_law_689 rfl (by decide) (zs8 rfl) h0.1 ⟨_, _, rfl⟩ hc4 k) ?_
  refine XL.up (pc' := 693) (fun _ _ k => x_iconst dXL_law_692 (show inR 1 from ⟨by decide, by decide⟩) k) ?_
  refine XL.br (tgt := 719) (pc' := 696) (x2 ≠ 1) (fun _ _ kt kf => x_icmp_ne dXL_law_693 rfl kt kf) (fun c => ?_) (fun c => ?_)
  · have h := h.1 c
    refine XL.up (pc' := 720) (fun _ _ k => x_iconst dXL_law_719 (show inR 0 from ⟨by decide, by decide⟩) k) ?_
    exact h.elim
  · have h := h.2 c
    refine XL.up (pc' := 697) (fun _ _ k => x_aload_n dXL_law_696 rfl rfl k) ?_
    refine XL.up (pc' := 699) (fun _ _ k => x_iload dXL_law_697 rfl k) ?_
    refine XL.up (pc' := 700) (fun _ _ k => x_iconst dXL_law_699 (show inR 0 from ⟨by decide, by decide⟩) k) ?_
    obtain ⟨x6, M5, hc8, hK7, h⟩ := h
    refine XL.up (pc' := 703) (st' := [zi x6]) (fun _ _ k => x_callVK (ci := 9) (as := [zi l15, zi 0]) (st := []) hK3 k9_of lmL_35 dXL_law_700 rfl (by decide) (zs8 rfl) h0.1 ⟨_, _, rfl⟩ hc8 k) ?_
    refine XL.up (pc' := 704) (fun _ _ k => x_iconst dXL_law_703 (show inR 1 from ⟨by decide, by decide⟩) k) ?_
    refine XL.br (tgt := 719) (pc' := 707) (x6 ≠ 1) (fun _ _ kt kf => x_icmp_ne dXL_law_704 rfl kt kf) (fun c => ?_) (fun c => ?_)
    · have h := h.1 c
      refine XL.up (pc' := 720) (fun _ _ k => x_iconst dXL_law_719 (show inR 0 from ⟨by decide, by decide⟩) k) ?_
      exact h.elim
    · have h := h.2 c
      refine XL.up (pc' := 708) (fun _ _ k => x_aload_n dXL_law_707 rfl rfl k) ?_
      refine XL.up (pc' := 710) (fun _ _ k => x_iload dXL_law_708 rfl k) ?_
      obtain ⟨x10, M9, hc12, hK11, h⟩ := h
      refine XL.up (pc' := 713) (st' := [zi x10]) (fun _ _ k => x_callVK (ci := 9) (as := [zi l15]) (st := []) hK7 k9_next lmL_39 dXL_law_710 rfl (by decide) (zs8 rfl) h0.1 ⟨_, _, rfl⟩ hc12 k) ?_
      refine XL.up (pc' := 716) (fun _ _ k => x_sipush dXL_law_713 (show inR (-2002) from ⟨by decide, by decide⟩) (by decide) k) ?_
      refine XL.br (tgt := 721) (pc' := 719) (x10 = (-2002)) (fun _ _ kt kf => x_icmp_eq dXL_law_716 rfl kt kf) (fun c => ?_) (fun c => ?_)
      · have h := h.1 c
        exact h
      · have h := h.2 c
        refine XL.up (pc' := 720) (fun _ _ k => x_iconst dXL_law_719 (show inR 0 from ⟨by decide, by decide⟩) k) ?_
        exact h.elim
set_option maxHeartbeats 4000000 in
set_option maxRecDepth 20000 in
theorem BL_721 {q : Nat × (Nat → Int)} {d : Nat} {K M : ZMem} (l3 : Int) (l4 : Int) (l12 : Int) (l13 : Int) (l14 : Int) (l15 : Int) (hq : ∀ j, inR (q.2 j)) (hq1 : q.1 ≤ 260) (hK : KW K M) (h0 : TopAt K 2) (h9 : mS K 2231 = (1, 400)) (h10 : mS K 2232 = (1, 400)) (h11 : mS K 2233 = (1, 400)) (h : XL q (d + 1) 730 [some (zr 1), some (zr 2), none, some (zi l3), some (zi l4), none, none, none, none, some (zr 2231), some (zr 2232), some (zr 2233), some (zi l12), some (zi l13), some (zi l14), some (zi l15), some (zi 0), some (zi 0), some (zi 0), none, none, none, none, none] [] M) : XL q (d + 1) 721 [some (zr 1), some (zr 2), none, some (zi l3), some (zi l4), none, none, none, none, some (zr 2231), some (zr 2232), some (zr 2233), some (zi l12), some (zi l13), some (zi l14), some (zi l15), none, none, none, none, none, none, none, none] [] M := by
  refine XL.up (pc' := 722) (fun _ _ k => x_iconst dXL_law_721 (show inR 0 from ⟨by decide, by decide⟩) k) ?_
  refine XL.up (pc' := 724) (L' := [some (zr 1), some (zr 2), none, some (zi l3), some (zi l4), none, none, none, none, some (zr 2231), some (zr 2232), some (zr 2233), some (zi l12), some (zi l13), some (zi l14), some (zi l15), some (zi 0), none, none, none, none, none, none, none]) (fun _ _ k => x_istore dXL_law_722 (by decide) rfl k) ?_
  refine XL.up (pc' := 725) (fun _ _ k => x_iconst dXL_law_724 (show inR 0 from ⟨by decide, by decide⟩) k) ?_
  refine XL.up (pc' := 727) (L' := [some (zr 1), some (zr 2), none, some (zi l3), some (zi l4), none, none, none, none, some (zr 2231), some (zr 2232), some (zr 2233), some (zi l12), some (zi l13), some (zi l14), some (zi l15), some (zi 0), some (zi 0), none, none, none, none, none, none]) (fun _ _ k => x_istore dXL_law_725 (by decide) rfl k) ?_
  refine XL.up (pc' := 728) (fun _ _ k => x_iconst dXL_law_727 (show inR 0 from ⟨by decide, by decide⟩) k) ?_
  refine XL.up (pc' := 730) (L' := [some (zr 1), some (zr 2), none, some (zi l3), some (zi l4), none, none, none, none, some (zr 2231), some (zr 2232), some (zr 2233), some (zi l12), some (zi l13), some (zi l14), some (zi l15), some (zi 0), some (zi 0), some (zi 0), none, none, none, none, none]) (fun _ _ k => x_istore dXL_law_728 (by decide) rfl k) ?_
  exact h
set_option maxHeartbeats 4000000 in
set_option maxRecDepth 20000 in
theorem BL_730 {q : Nat × (Nat → Int)} {d : Nat} {K M : ZMem} (l3 : Int) (l4 : Int) (l12 : Int) (l13 : Int) (l14 : Int) (l15 : Int) (l16 : Int) (l17 : Int) (l18 : Int) (hq : ∀ j, inR (q.2 j)) (hq1 : q.1 ≤ 260) (hK : KW K M) (h0 : TopAt K 2) (h9 : mS K 2231 = (1, 400)) (h10 : mS K 2232 = (1, 400)) (h11 : mS K 2233 = (1, 400)) (h : ((60 ≤ l18 → (XL q (d + 1) 865 [some (zr 1), some (zr 2), none, some (zi l3), some (zi l4), none, none, none, none, some (zr 2231), some (zr 2232), some (zr 2233), some (zi l12), some (zi l13), some (zi l14), some (zi l15), some (zi l16), some (zi l17), none, none, none, none, none, none] [] M)) ∧ (¬ (60 ≤ l18) → (Ci d q9_of [zr 2, zi l15, zi 0] M (fun x2 M1 => KW K M1 ∧ ((x2 ≠ 1 → (XL q (d + 1) 865 [some (zr 1), some (zr 2), none, some (zi l3), some (zi l4), none, none, none, none, some (zr 2231), some (zr 2232), some (zr 2233), some (zi l12), some (zi l13), some (zi l14), some (zi l15), some (zi l16), some (zi l17), none, none, none, none, none, none] [] M1)) ∧ (¬ (x2 ≠ 1) → (XL q (d + 1) 748 [some (zr 1), some (zr 2), none, some (zi l3), some (zi l4), none, none, none, none, some (zr 2231), some (zr 2232), some (zr 2233), some (zi l12), some (zi l13), some (zi l14), some (zi l15), some (zi l16), none, some (zi l18), none, none, none, none, none] [] M1)))))))) : XL q (d + 1) 730 [some (zr 1), some (zr 2), none, some (zi l3), some (zi l4), none, none, none, none, some (zr 2231), some (zr 2232), some (zr 2233), some (zi l12), some (zi l13), some (zi l14), some (zi l15), some (zi l16), some (zi l17), some (zi l18), none, none, none, none, none] [] M := by
  refine XL.up (pc' := 732) (fun _ _ k => x_iload dXL_law_730 rfl k) ?_
  refine XL.up (pc' := 734) (fun _ _ k => x_bipush dXL_law_732 (show inR 60 from ⟨by decide, by decide⟩) (by decide) k) ?_
  refine XL.br (tgt := 865) (pc' := 737) (60 ≤ l18) (fun _ _ kt kf => x_icmp_ge dXL_law_734 rfl kt kf) (fun c => ?_) (fun c => ?_)
  · have h := h.1 c
    exact XL.less (L' := [some (zr 1), some (zr 2), none, some (zi l3), some (zi l4), none, none, none, none, some (zr 2231), some (zr 2232), some (zr 2233), some (zi l12), some (zi l13), some (zi l14), some (zi l15), some (zi l16), some (zi l17), none, none, none, none, none, none]) (⟨rfl, ⟨rfl, ⟨rfl, ⟨rfl, ⟨rfl, ⟨rfl, ⟨rfl, ⟨rfl, ⟨rfl, ⟨rfl, ⟨rfl, ⟨rfl, ⟨rfl, trivial⟩⟩⟩⟩⟩⟩⟩⟩⟩⟩⟩⟩⟩) h
  · have h := h.2 c
    refine XL.up (pc' := 738) (fun _ _ k => x_aload_n dXL_law_737 rfl rfl k) ?_
    refine XL.up (pc' := 740) (fun _ _ k => x_iload dXL_law_738 rfl k) ?_
    refine XL.up (pc' := 741) (fun _ _ k => x_iconst dXL_law_740 (show inR 0 from ⟨by decide, by decide⟩) k) ?_
    obtain ⟨x2, M1, hc4, hK3, h⟩ := h
    refine XL.up (pc' := 744) (st' := [zi x2]) (fun _ _ k => x_callVK (ci := 9) (as := [zi l15, zi 0]) (st := []) hK k9_of lmL_35 dXL_law_741 rfl (by decide) (zs8 rfl) h0.1 ⟨_, _, rfl⟩ hc4 k) ?_
    refine XL.up (pc' := 745) (fun _ _ k => x_iconst dXL_law_744 (show inR 1 from ⟨by decide, by decide⟩) k) ?_
    refine XL.br (tgt := 865) (pc' := 748) (x2 ≠ 1) (fun _ _ kt kf => x_icmp_ne dXL_law_745 rfl kt kf) (fun c => ?_) (fun c => ?_)
    · have h := h.1 c
      exact XL.less (L' := [some (zr 1), some (zr 2), none, some (zi l3), some (zi l4), none, none, none, none, some (zr 2231), some (zr 2232), some (zr 2233), some (zi l12), some (zi l13), some (zi l14), some (zi l15), some (zi l16), some (zi l17), none, none, none, none, none, none]) (⟨rfl, ⟨rfl, ⟨rfl, ⟨rfl, ⟨rfl, ⟨rfl, ⟨rfl, ⟨rfl, ⟨rfl, ⟨rfl, ⟨rfl, ⟨rfl, ⟨rfl, trivial⟩⟩⟩⟩⟩⟩⟩⟩⟩⟩⟩⟩⟩) h
    · have h := h.2 c
      exact XL.less (L' := [some (zr 1), some (zr 2), none, some (zi l3), some (zi l4), none, none, none, none, some (zr 2231), some (zr 2232), some (zr 2233), some (zi l12), some (zi l13), some (zi l14), some (zi l15), some (zi l16), none, some (zi l18), none, none, none, none, none]) (⟨rfl, ⟨rfl, ⟨rfl, ⟨rfl, ⟨rfl, ⟨rfl, ⟨rfl, ⟨rfl, ⟨rfl, ⟨rfl, ⟨rfl, ⟨rfl, ⟨rfl, trivial⟩⟩⟩⟩⟩⟩⟩⟩⟩⟩⟩⟩⟩) h
set_option maxHeartbeats 4000000 in
set_option maxRecDepth 20000 in
theorem BL_748 {q : Nat × (Nat → Int)} {d : Nat} {K M : ZMem} (l3 : Int) (l4 : Int) (l12 : Int) (l13 : Int) (l14 : Int) (l15 : Int) (l16 : Int) (l18 : Int) (hq : ∀ j, inR (q.2 j)) (hq1 : q.1 ≤ 260) (hK : KW K M) (h0 : TopAt K 2) (h9 : mS K 2231 = (1, 400)) (h10 : mS K 2232 = (1, 400)) (h11 : mS K 2233 = (1, 400)) (h : (inR (1 + l18)) ∧ ((0 : Int) ≤ (1 + l18) ∧ (1 + l18) ≤ (1000 : Int)) ∧ (0 ≤ (zShr (scell q (1 + l18)) 1)) ∧ (inR (1 + ((zShr (scell q (1 + l18)) 1) % 90))) ∧ XL q (d + 1) 765 [some (zr 1), some (zr 2), none, some (zi l3), some (zi l4), none, none, none, none, some (zr 2231), some (zr 2232), some (zr 2233), some (zi l12), some (zi l13), some (zi l14), some (zi l15), some (zi l16), none, some (zi l18), some (zi (1 + ((zShr (scell q (1 + l18)) 1) % 90))), none, none, none, none] [] M) : XL q (d + 1) 748 [some (zr 1), some (zr 2), none, some (zi l3), some (zi l4), none, none, none, none, some (zr 2231), some (zr 2232), some (zr 2233), some (zi l12), some (zi l13), some (zi l14), some (zi l15), some (zi l16), none, some (zi l18), none, none, none, none, none] [] M := by
  refine XL.up (pc' := 749) (fun _ _ k => x_iconst dXL_law_748 (show inR 1 from ⟨by decide, by decide⟩) k) ?_
  refine XL.up (pc' := 750) (fun _ _ k => x_aload_n dXL_law_749 rfl rfl k) ?_
  refine XL.up (pc' := 751) (fun _ _ k => x_iconst dXL_law_750 (show inR 1 from ⟨by decide, by decide⟩) k) ?_
  refine XL.up (pc' := 753) (fun _ _ k => x_iload dXL_law_751 rfl k) ?_
  obtain ⟨g1, h⟩ := h
  refine XL.up (pc' := 754) (fun _ _ k => x_iadd dXL_law_753 g1 k) ?_
  obtain ⟨g2, h⟩ := h
  refine XL.up (pc' := 757) (fun _ _ k => x_cell hq hq1 g2 lmL_11 dXL_law_754 (zs8 rfl) k) ?_
  refine XL.up (pc' := 758) (fun _ _ k => x_iconst dXL_law_757 (show inR 1 from ⟨by decide, by decide⟩) k) ?_
  refine XL.up (pc' := 759) (fun _ _ k => x_iushrK dXL_law_758 k) ?_
  refine XL.up (pc' := 761) (fun _ _ k => x_bipush dXL_law_759 (show inR 90 from ⟨by decide, by decide⟩) (by decide) k) ?_
  obtain ⟨g3, h⟩ := h
  refine XL.up (pc' := 762) (fun _ _ k => x_iremK g3 (show (0 : Int) < 90 by decide) dXL_law_761 k) ?_
  obtain ⟨g4, h⟩ := h
  refine XL.up (pc' := 763) (fun _ _ k => x_iadd dXL_law_762 g4 k) ?_
  refine XL.up (pc' := 765) (L' := [some (zr 1), some (zr 2), none, some (zi l3), some (zi l4), none, none, none, none, some (zr 2231), some (zr 2232), some (zr 2233), some (zi l12), some (zi l13), some (zi l14), some (zi l15), some (zi l16), none, some (zi l18), some (zi (1 + ((zShr (scell q (1 + l18)) 1) % 90))), none, none, none, none]) (fun _ _ k => x_istore dXL_law_763 (by decide) rfl k) ?_
  exact h
set_option maxHeartbeats 4000000 in
set_option maxRecDepth 20000 in
theorem BL_765 {q : Nat × (Nat → Int)} {d : Nat} {K M : ZMem} (l3 : Int) (l4 : Int) (l12 : Int) (l13 : Int) (l14 : Int) (l15 : Int) (l16 : Int) (l18 : Int) (l19 : Int) (hq : ∀ j, inR (q.2 j)) (hq1 : q.1 ≤ 260) (hK : KW K M) (h0 : TopAt K 2) (h9 : mS K 2231 = (1, 400)) (h10 : mS K 2232 = (1, 400)) (h11 : mS K 2233 = (1, 400)) (h : Ci d q9_of [zr 2, zi l15, zi 2] M (fun x2 M1 => KW K M1 ∧ XL q (d + 1) 774 [some (zr 1), some (zr 2), none, some (zi l3), some (zi l4), none, none, none, none, some (zr 2231), some (zr 2232), some (zr 2233), some (zi l12), some (zi l13), some (zi l14), some (zi l15), some (zi l16), none, some (zi l18), some (zi l19), some (zi x2), none, none, none] [] M1)) : XL q (d + 1) 765 [some (zr 1), some (zr 2), none, some (zi l3), some (zi l4), none, none, none, none, some (zr 2231), some (zr 2232), some (zr 2233), some (zi l12), some (zi l13), some (zi l14), some (zi l15), some (zi l16), none, some (zi l18), some (zi l19), none, none, none, none] [] M := by
  refine XL.up (pc' := 766) (fun _ _ k => x_aload_n dXL_law_765 rfl rfl k) ?_
  refine XL.up (pc' := 768) (fun _ _ k => x_iload dXL_law_766 rfl k) ?_
  refine XL.up (pc' := 769) (fun _ _ k => x_iconst dXL_law_768 (show inR 2 from ⟨by decide, by decide⟩) k) ?_
  obtain ⟨x2, M1, hc4, hK3, h⟩ := h
  refine XL.up (pc' := 772) (st' := [zi x2]) (fun _ _ k => x_callVK (ci := 9) (as := [zi l15, zi 2]) (st := []) hK k9_of lmL_35 dXL_law_769 rfl (by decide) (zs8 rfl) h0.1 ⟨_, _, rfl⟩ hc4 k) ?_
  refine XL.up (pc' := 774) (L' := [some (zr 1), some (zr 2), none, some (zi l3), some (zi l4), none, none, none, none, some (zr 2231), some (zr 2232), some (zr 2233), some (zi l12), some (zi l13), some (zi l14), some (zi l15), some (zi l16), none, some (zi l18), some (zi l19), some (zi x2), none, none, none]) (fun _ _ k => x_istore dXL_law_772 (by decide) rfl k) ?_
  exact h
set_option maxHeartbeats 4000000 in
set_option maxRecDepth 20000 in
theorem BL_774 {q : Nat × (Nat → Int)} {d : Nat} {K M : ZMem} (l3 : Int) (l4 : Int) (l12 : Int) (l13 : Int) (l14 : Int) (l15 : Int) (l16 : Int) (l18 : Int) (l19 : Int) (l20 : Int) (hq : ∀ j, inR (q.2 j)) (hq1 : q.1 ≤ 260) (hK : KW K M) (h0 : TopAt K 2) (h9 : mS K 2231 = (1, 400)) (h10 : mS K 2232 = (1, 400)) (h11 : mS K 2233 = (1, 400)) (h : Ci d q9_go [zr 2, zi l15, zi l19] M (fun x2 M1 => KW K M1 ∧ XL q (d + 1) 784 [some (zr 1), some (zr 2), none, some (zi l3), some (zi l4), none, none, none, none, some (zr 2231), some (zr 2232), some (zr 2233), some (zi l12), some (zi l13), some (zi l14), some (zi l15), some (zi l16), none, some (zi l18), some (zi l19), some (zi l20), some (zi x2), none, none] [] M1)) : XL q (d + 1) 774 [some (zr 1), some (zr 2), none, some (zi l3), some (zi l4), none, none, none, none, some (zr 2231), some (zr 2232), some (zr 2233), some (zi l12), some (zi l13), some (zi l14), some (zi l15), some (zi l16), none, some (zi l18), some (zi l19), some (zi l20), none, none, none] [] M := by
  refine XL.up (pc' := 775) (fun _ _ k => x_aload_n dXL_law_774 rfl rfl k) ?_
  refine XL.up (pc' := 777) (fun _ _ k => x_iload dXL_law_775 rfl k) ?_
  refine XL.up (pc' := 779) (fun _ _ k => x_iload dXL_law_777 rfl k) ?_
  obtain ⟨x2, M1, hc4, hK3, h⟩ := h
  refine XL.up (pc' := 782) (st' := [zi x2]) (fun _ _ k => x_callVK (ci := 9) (as := [zi l15, zi l19]) (st := []) hK k9_go lmL_42 dXL_law_779 rfl (by decide) (zs8 rfl) h0.1 ⟨_, _, rfl⟩ hc4 k) ?_
  refine XL.up (pc' := 784) (L' := [some (zr 1), some (zr 2), none, some (zi l3), some (zi l4), none, none, none, none, some (zr 2231), some (zr 2232), some (zr 2233), some (zi l12), some (zi l13), some (zi l14), some (zi l15), some (zi l16), none, some (zi l18), some (zi l19), some (zi l20), some (zi x2), none, none]) (fun _ _ k => x_istore dXL_law_782 (by decide) rfl k) ?_
  exact h
set_option maxHeartbeats 4000000 in
set_option maxRecDepth 20000 in
theorem BL_784 {q : Nat × (Nat → Int)} {d : Nat} {K M : ZMem} (l3 : Int) (l4 : Int) (l12 : Int) (l13 : Int) (l14 : Int) (l15 : Int) (l16 : Int) (l18 : Int) (l19 : Int) (l20 : Int) (l21 : Int) (hq : ∀ j, inR (q.2 j)) (hq1 : q.1 ≤ 260) (hK : KW K M) (h0 : TopAt K 2) (h9 : mS K 2231 = (1, 400)) (h10 : mS K 2232 = (1, 400)) (h11 : mS K 2233 = (1, 400)) (h : ((l21 < 1 → (False)) ∧ (¬ (l21 < 1) → ((3 < l21 → (False)) ∧ (¬ (3 < l21) → (Ci d q9_of [zr 2, zi l15, zi 2] M (fun x2 M1 => KW K M1 ∧ (inR (x2 - l20)) ∧ ((l19 < (x2 - l20) → (False)) ∧ (¬ (l19 < (x2 - l20)) → ((l21 ≠ 2 → (XL q (d + 1) 834 [some (zr 1), some (zr 2), none, some (zi l3), some (zi l4), none, none, none, none, some (zr 2231), some (zr 2232), some (zr 2233), some (zi l12), some (zi l13), some (zi l14), some (zi l15), some (zi l16), none, some (zi l18), none, none, some (zi l21), none, none] [] M1)) ∧ (¬ (l21 ≠ 2) → (Ci d q9_of [zr 2, zi l15, zi 2] M1 (fun x7 M6 => KW K M6 ∧ (inR (x7 - l20)) ∧ (((x7 - l20) = l19 → (XL q (d + 1) 834 [some (zr 1), some (zr 2), none, some (zi l3), some (zi l4), none, none, none, none, some (zr 2231), some (zr 2232), some (zr 2233), some (zi l12), some (zi l13), some (zi l14), some (zi l15), some (zi l16), none, some (zi l18), none, none, some (zi l21), none, none] [] M6)) ∧ (¬ ((x7 - l20) = l19) → (False)))))))))))))))) : XL q (d + 1) 784 [some (zr 1), some (zr 2), none, some (zi l3), some (zi l4), none, none, none, none, some (zr 2231), some (zr 2232), some (zr 2233), some (zi l12), some (zi l13), some (zi l14), some (zi l15), some (zi l16), none, some (zi l18), some (zi l19), some (zi l20), some (zi l21), none, none] [] M := by
  refine XL.up (pc' := 786) (fun _ _ k => x_iload dXL_law_784 rfl k) ?_
  refine XL.up (pc' := 787) (fun _ _ k => x_iconst dXL_law_786 (show inR 1 from ⟨by decide, by decide⟩) k) ?_
  refine XL.br (tgt := 832) (pc' := 790) (l21 < 1) (fun _ _ kt kf => x_icmp_lt dXL_law_787 rfl kt kf) (fun c => ?_) (fun c => ?_)
  · have h := h.1 c
    refine XL.up (pc' := 833) (fun _ _ k => x_iconst dXL_law_832 (show inR 0 from ⟨by decide, by decide⟩) k) ?_
    exact h.elim
  · have h := h.2 c
    refine XL.up (pc' := 792) (fun _ _ k => x_iload dXL_law_790 rfl k) ?_
    refine XL.up (pc' := 793) (fun _ _ k => x_iconst dXL_law_792 (show inR 3 from ⟨by decide, by decide⟩) k) ?_
    refine XL.br (tgt := 832) (pc' := 796) (3 < l21) (fun _ _ kt kf => x_icmp_gt dXL_law_793 rfl kt kf) (fun c => ?_) (fun c => ?_)
    · have h := h.1 c
      refine XL.up (pc' := 833) (fun _ _ k => x_iconst dXL_law_832 (show inR 0 from ⟨by decide, by decide⟩) k) ?_
      exact h.elim
    · have h := h.2 c
      refine XL.up (pc' := 797) (fun _ _ k => x_aload_n dXL_law_796 rfl rfl k) ?_
      refine XL.up (pc' := 799) (fun _ _ k => x_iload dXL_law_797 rfl k) ?_
      refine XL.up (pc' := 800) (fun _ _ k => x_iconst dXL_law_799 (show inR 2 from ⟨by decide, by decide⟩) k) ?_
      obtain ⟨x2, M1, hc4, hK3, h⟩ := h
      refine XL.up (pc' := 803) (st' := [zi x2]) (fun _ _ k => x_callVK (ci := 9) (as := [zi l15, zi 2]) (st := []) hK k9_of lmL_35 dXL_law_800 rfl (by decide) (zs8 rfl) h0.1 ⟨_, _, rfl⟩ hc4 k) ?_
      refine XL.up (pc' := 805) (fun _ _ k => x_iload dXL_law_803 rfl k) ?_
      obtain ⟨g5, h⟩ := h
      refine XL.up (pc' := 806) (fun _ _ k => x_isub dXL_law_805 g5 k) ?_
      refine XL.up (pc' := 808) (fun _ _ k => x_iload dXL_law_806 rfl k) ?_
      refine XL.br (tgt := 832) (pc' := 811) (l19 < (x2 - l20)) (fun _ _ kt kf => x_icmp_gt dXL_law_808 rfl kt kf) (fun c => ?_) (fun c => ?_)
      · have h := h.1 c
        refine XL.up (pc' := 833) (fun _ _ k => x_iconst dXL_law_832 (show inR 0 from ⟨by decide, by decide⟩) k) ?_
        exact h.elim
      · have h := h.2 c
        refine XL.up (pc' := 813) (fun _ _ k => x_iload dXL_law_811 rfl k) ?_
        refine XL.up (pc' := 814) (fun _ _ k => x_iconst dXL_law_813 (show inR 2 from ⟨by decide, by decide⟩) k) ?_
        refine XL.br (tgt := 834) (pc' := 817) (l21 ≠ 2) (fun _ _ kt kf => x_icmp_ne dXL_law_814 rfl kt kf) (fun c => ?_) (fun c => ?_)
        · have h := h.1 c
          exact XL.less (L' := [some (zr 1), some (zr 2), none, some (zi l3), some (zi l4), none, none, none, none, some (zr 2231), some (zr 2232), some (zr 2233), some (zi l12), some (zi l13), some (zi l14), some (zi l15), some (zi l16), none, some (zi l18), none, none, some (zi l21), none, none]) (⟨rfl, ⟨rfl, ⟨rfl, ⟨rfl, ⟨rfl, ⟨rfl, ⟨rfl, ⟨rfl, ⟨rfl, ⟨rfl, ⟨rfl, ⟨rfl, ⟨rfl, ⟨rfl, trivial⟩⟩⟩⟩⟩⟩⟩⟩⟩⟩⟩⟩⟩⟩) h
        · have h := h.2 c
          refine XL.up (pc' := 818) (fun _ _ k => x_aload_n dXL_law_817 rfl rfl k) ?_
          refine XL.up (pc' := 820) (fun _ _ k => x_iload dXL_law_818 rfl k) ?_
          refine XL.up (pc' := 821) (fun _ _ k => x_iconst dXL_law_820 (show inR 2 from ⟨by decide, by decide⟩) k) ?_
          obtain ⟨x7, M6, hc9, hK8, h⟩ := h
          refine XL.up (pc' := 824) (st' := [zi x7]) (fun _ _ k => x_callVK (ci := 9) (as := [zi l15, zi 2]) (st := []) hK3 k9_of lmL_35 dXL_law_821 rfl (by decide) (zs8 rfl) h0.1 ⟨_, _, rfl⟩ hc9 k) ?_
          refine XL.up (pc' := 826) (fun _ _ k => x_iload dXL_law_824 rfl k) ?_
          obtain ⟨g10, h⟩ := h
          refine XL.up (pc' := 827) (fun _ _ k => x_isub dXL_law_826 g10 k) ?_
          refine XL.up (pc' := 829) (fun _ _ k => x_iload dXL_law_827 rfl k) ?_
          refine XL.br (tgt := 834) (pc' := 832) ((x7 - l20) = l19) (fun _ _ kt kf => x_icmp_eq dXL_law_829 rfl kt kf) (fun c => ?_) (fun c => ?_)
          · have h := h.1 c
            exact XL.less (L' := [some (zr 1), some (zr 2), none, some (zi l3), some (zi l4), none, none, none, none, some (zr 2231), some (zr 2232), some (zr 2233), some (zi l12), some (zi l13), some (zi l14), some (zi l15), some (zi l16), none, some (zi l18), none, none, some (zi l21), none, none]) (⟨rfl, ⟨rfl, ⟨rfl, ⟨rfl, ⟨rfl, ⟨rfl, ⟨rfl, ⟨rfl, ⟨rfl, ⟨rfl, ⟨rfl, ⟨rfl, ⟨rfl, ⟨rfl, trivial⟩⟩⟩⟩⟩⟩⟩⟩⟩⟩⟩⟩⟩⟩) h
          · have h := h.2 c
            refine XL.up (pc' := 833) (fun _ _ k => x_iconst dXL_law_832 (show inR 0 from ⟨by decide, by decide⟩) k) ?_
            exact h.elim
set_option maxHeartbeats 4000000 in
set_option maxRecDepth 20000 in
theorem BL_834 {q : Nat × (Nat → Int)} {d : Nat} {K M : ZMem} (l3 : Int) (l4 : Int) (l12 : Int) (l13 : Int) (l14 : Int) (l15 : Int) (l16 : Int) (l18 : Int) (l21 : Int) (hq : ∀ j, inR (q.2 j)) (hq1 : q.1 ≤ 260) (hK : KW K M) (h0 : TopAt K 2) (h9 : mS K 2231 = (1, 400)) (h10 : mS K 2232 = (1, 400)) (h11 : mS K 2233 = (1, 400)) (h : ((l21 ≠ 1 → ((inR (l16 + 0)) ∧ XL q (d + 1) 850 [some (zr 1), some (zr 2), none, some (zi l3), some (zi l4), none, none, none, none, some (zr 2231), some (zr 2232), some (zr 2233), some (zi l12), some (zi l13), some (zi l14), some (zi l15), some (zi (l16 + 0)), none, some (zi l18), none, none, none, none, none] [] M)) ∧ (¬ (l21 ≠ 1) → ((inR (l16 + 1)) ∧ XL q (d + 1) 850 [some (zr 1), some (zr 2), none, some (zi l3), some (zi l4), none, none, none, none, some (zr 2231), some (zr 2232), some (zr 2233), some (zi l12), some (zi l13), some (zi l14), some (zi l15), some (zi (l16 + 1)), none, some (zi l18), none, none, none, none, none] [] M)))) : XL q (d + 1) 834 [some (zr 1), some (zr 2), none, some (zi l3), some (zi l4), none, none, none, none, some (zr 2231), some (zr 2232), some (zr 2233), some (zi l12), some (zi l13), some (zi l14), some (zi l15), some (zi l16), none, some (zi l18), none, none, some (zi l21), none, none] [] M := by
  refine XL.up (pc' := 836) (fun _ _ k => x_iload dXL_law_834 rfl k) ?_
  refine XL.up (pc' := 838) (fun _ _ k => x_iload dXL_law_836 rfl k) ?_
  refine XL.up (pc' := 839) (fun _ _ k => x_iconst dXL_law_838 (show inR 1 from ⟨by decide, by decide⟩) k) ?_
  refine XL.br (tgt := 846) (pc' := 842) (l21 ≠ 1) (fun _ _ kt kf => x_icmp_ne dXL_law_839 rfl kt kf) (fun c => ?_) (fun c => ?_)
  · have h := h.1 c
    refine XL.up (pc' := 847) (fun _ _ k => x_iconst dXL_law_846 (show inR 0 from ⟨by decide, by decide⟩) k) ?_
    obtain ⟨g1, h⟩ := h
    refine XL.up (pc' := 848) (fun _ _ k => x_iadd dXL_law_847 g1 k) ?_
    refine XL.up (pc' := 850) (L' := [some (zr 1), some (zr 2), none, some (zi l3), some (zi l4), none, none, none, none, some (zr 2231), some (zr 2232), some (zr 2233), some (zi l12), some (zi l13), some (zi l14), some (zi l15), some (zi (l16 + 0)), none, some (zi l18), none, none, some (zi l21), none, none]) (fun _ _ k => x_istore dXL_law_848 (by decide) rfl k) ?_
    exact XL.less (L' := [some (zr 1), some (zr 2), none, some (zi l3), some (zi l4), none, none, none, none, some (zr 2231), some (zr 2232), some (zr 2233), some (zi l12), some (zi l13), some (zi l14), some (zi l15), some (zi (l16 + 0)), none, some (zi l18), none, none, none, none, none]) (⟨rfl, ⟨rfl, ⟨rfl, ⟨rfl, ⟨rfl, ⟨rfl, ⟨rfl, ⟨rfl, ⟨rfl, ⟨rfl, ⟨rfl, ⟨rfl, ⟨rfl, trivial⟩⟩⟩⟩⟩⟩⟩⟩⟩⟩⟩⟩⟩) h
  · have h := h.2 c
    refine XL.up (pc' := 843) (fun _ _ k => x_iconst dXL_law_842 (show inR 1 from ⟨by decide, by decide⟩) k) ?_
    refine XL.up (pc' := 847) (fun _ _ k => x_goto dXL_law_843 rfl k) ?_
    obtain ⟨g2, h⟩ := h
    refine XL.up (pc' := 848) (fun _ _ k => x_iadd dXL_law_847 g2 k) ?_
    refine XL.up (pc' := 850) (L' := [some (zr 1), some (zr 2), none, some (zi l3), some (zi l4), none, none, none, none, some (zr 2231), some (zr 2232), some (zr 2233), some (zi l12), some (zi l13), some (zi l14), some (zi l15), some (zi (l16 + 1)), none, some (zi l18), none, none, some (zi l21), none, none]) (fun _ _ k => x_istore dXL_law_848 (by decide) rfl k) ?_
    exact XL.less (L' := [some (zr 1), some (zr 2), none, some (zi l3), some (zi l4), none, none, none, none, some (zr 2231), some (zr 2232), some (zr 2233), some (zi l12), some (zi l13), some (zi l14), some (zi l15), some (zi (l16 + 1)), none, some (zi l18), none, none, none, none, none]) (⟨rfl, ⟨rfl, ⟨rfl, ⟨rfl, ⟨rfl, ⟨rfl, ⟨rfl, ⟨rfl, ⟨rfl, ⟨rfl, ⟨rfl, ⟨rfl, ⟨rfl, trivial⟩⟩⟩⟩⟩⟩⟩⟩⟩⟩⟩⟩⟩) h
set_option maxHeartbeats 4000000 in
set_option maxRecDepth 20000 in
theorem BL_850 {q : Nat × (Nat → Int)} {d : Nat} {K M : ZMem} (l3 : Int) (l4 : Int) (l12 : Int) (l13 : Int) (l14 : Int) (l15 : Int) (l16 : Int) (l18 : Int) (hq : ∀ j, inR (q.2 j)) (hq1 : q.1 ≤ 260) (hK : KW K M) (h0 : TopAt K 2) (h9 : mS K 2231 = (1, 400)) (h10 : mS K 2232 = (1, 400)) (h11 : mS K 2233 = (1, 400)) (h : Ci d q9_of [zr 2, zi l15, zi 2] M (fun x2 M1 => KW K M1 ∧ (inR (l18 + 1)) ∧ XL q (d + 1) 730 [some (zr 1), some (zr 2), none, some (zi l3), some (zi l4), none, none, none, none, some (zr 2231), some (zr 2232), some (zr 2233), some (zi l12), some (zi l13), some (zi l14), some (zi l15), some (zi l16), some (zi x2), some (zi (l18 + 1)), none, none, none, none, none] [] M1)) : XL q (d + 1) 850 [some (zr 1), some (zr 2), none, some (zi l3), some (zi l4), none, none, none, none, some (zr 2231), some (zr 2232), some (zr 2233), some (zi l12), some (zi l13), some (zi l14), some (zi l15), some (zi l16), none, some (zi l18), none, none, none, none, none] [] M := by
  refine XL.up (pc' := 851) (fun _ _ k => x_aload_n dXL_law_850 rfl rfl k) ?_
  refine XL.up (pc' := 853) (fun _ _ k => x_iload dXL_law_851 rfl k) ?_
  refine XL.up (pc' := 854) (fun _ _ k => x_iconst dXL_law_853 (show inR 2 from ⟨by decide, by decide⟩) k) ?_
  obtain ⟨x2, M1, hc4, hK3, h⟩ := h
  refine XL.up (pc' := 857) (st' := [zi x2]) (fun _ _ k => x_callVK (ci := 9) (as := [zi l15, zi 2]) (st := []) hK k9_of lmL_35 dXL_law_854 rfl (by decide) (zs8 rfl) h0.1 ⟨_, _, rfl⟩ hc4 k) ?_
  refine XL.up (pc' := 859) (L' := [some (zr 1), some (zr 2), none, some (zi l3), some (zi l4), none, none, none, none, some (zr 2231), some (zr 2232), some (zr 2233), some (zi l12), some (zi l13), some (zi l14), some (zi l15), some (zi l16), some (zi x2), some (zi l18), none, none, none, none, none]) (fun _ _ k => x_istore dXL_law_857 (by decide) rfl k) ?_
  obtain ⟨g5, h⟩ := h
  refine XL.up (pc' := 862) (L' := [some (zr 1), some (zr 2), none, some (zi l3), some (zi l4), none, none, none, none, some (zr 2231), some (zr 2232), some (zr 2233), some (zi l12), some (zi l13), some (zi l14), some (zi l15), some (zi l16), some (zi x2), some (zi (l18 + 1)), none, none, none, none, none]) (fun _ _ k => x_iinc dXL_law_859 rfl g5 (by decide) rfl k) ?_
  refine XL.up (pc' := 730) (fun _ _ k => x_goto dXL_law_862 rfl k) ?_
  exact h
set_option maxHeartbeats 4000000 in
set_option maxRecDepth 20000 in
theorem BL_865 {q : Nat × (Nat → Int)} {d : Nat} {K M : ZMem} (l3 : Int) (l4 : Int) (l12 : Int) (l13 : Int) (l14 : Int) (l15 : Int) (l16 : Int) (l17 : Int) (hq : ∀ j, inR (q.2 j)) (hq1 : q.1 ≤ 260) (hK : KW K M) (h0 : TopAt K 2) (h9 : mS K 2231 = (1, 400)) (h10 : mS K 2232 = (1, 400)) (h11 : mS K 2233 = (1, 400)) (h : Ci d q9_of [zr 2, zi l15, zi 0] M (fun x2 M1 => KW K M1 ∧ ((x2 ≠ 1 → (XL q (d + 1) 890 [some (zr 1), some (zr 2), none, some (zi l3), some (zi l4), none, none, none, none, some (zr 2231), some (zr 2232), some (zr 2233), some (zi l12), some (zi l13), some (zi l14), some (zi l15), some (zi l16), some (zi l17), none, none, none, none, none, none] [] M1)) ∧ (¬ (x2 ≠ 1) → (Ci d q9_all [zr 2, zi l15, zi 2000] M1 (fun x6 M5 => KW K M5 ∧ (inR (l16 + x6)) ∧ XL q (d + 1) 890 [some (zr 1), some (zr 2), none, some (zi l3), some (zi l4), none, none, none, none, some (zr 2231), some (zr 2232), some (zr 2233), some (zi l12), some (zi l13), some (zi l14), some (zi l15), some (zi (l16 + x6)), some (zi l17), none, none, none, none, none, none] [] M5)))))) : XL q (d + 1) 865 [some (zr 1), some (zr 2), none, some (zi l3), some (zi l4), none, none, none, none, some (zr 2231), some (zr 2232), some (zr 2233), some (zi l12), some (zi l13), some (zi l14), some (zi l15), some (zi l16), some (zi l17), none, none, none, none, none, none] [] M := by
  refine XL.up (pc' := 866) (fun _ _ k => x_aload_n dXL_law_865 rfl rfl k) ?_
  refine XL.up (pc' := 868) (fun _ _ k => x_iload dXL_law_866 rfl k) ?_
  refine XL.up (pc' := 869) (fun _ _ k => x_iconst dXL_law_868 (show inR 0 from ⟨by decide, by decide⟩) k) ?_
  obtain ⟨x2, M1, hc4, hK3, h⟩ := h
  refine XL.up (pc' := 872) (st' := [zi x2]) (fun _ _ k => x_callVK (ci := 9) (as := [zi l15, zi 0]) (st := []) hK k9_of lmL_35 dXL_law_869 rfl (by decide) (zs8 rfl) h0.1 ⟨_, _, rfl⟩ hc4 k) ?_
  refine XL.up (pc' := 873) (fun _ _ k => x_iconst dXL_law_872 (show inR 1 from ⟨by decide, by decide⟩) k) ?_
  refine XL.br (tgt := 890) (pc' := 876) (x2 ≠ 1) (fun _ _ kt kf => x_icmp_ne dXL_law_873 rfl kt kf) (fun c => ?_) (fun c => ?_)
  · have h := h.1 c
    exact h
  · have h := h.2 c
    refine XL.up (pc' := 878) (fun _ _ k => x_iload dXL_law_876 rfl k) ?_
    refine XL.up (pc' := 879) (fun _ _ k => x_aload_n dXL_law_878 rfl rfl k) ?_
    refine XL.up (pc' := 881) (fun _ _ k => x_iload dXL_law_879 rfl k) ?_
    refine XL.up (pc' := 884) (fun _ _ k => x_sipush dXL_law_881 (show inR 2000 from ⟨by decide, by decide⟩) (by decide) k) ?_
    obtain ⟨x6, M5, hc8, hK7, h⟩ := h
    refine XL.up (pc' := 887) (st' := [zi x6, zi l16]) (fun _ _ k => x_callVK (ci := 9) (as := [zi l15, zi 2000]) (st := [zi l16]) hK3 k9_all lmL_45 dXL_law_884 rfl (by decide) (zs8 rfl) h0.1 ⟨_, _, rfl⟩ hc8 k) ?_
    obtain ⟨g9, h⟩ := h
    refine XL.up (pc' := 888) (fun _ _ k => x_iadd dXL_law_887 g9 k) ?_
    refine XL.up (pc' := 890) (L' := [some (zr 1), some (zr 2), none, some (zi l3), some (zi l4), none, none, none, none, some (zr 2231), some (zr 2232), some (zr 2233), some (zi l12), some (zi l13), some (zi l14), some (zi l15), some (zi (l16 + x6)), some (zi l17), none, none, none, none, none, none]) (fun _ _ k => x_istore dXL_law_888 (by decide) rfl k) ?_
    exact h
set_option maxHeartbeats 4000000 in
set_option maxRecDepth 20000 in
theorem BL_890 {q : Nat × (Nat → Int)} {d : Nat} {K M : ZMem} (l3 : Int) (l4 : Int) (l12 : Int) (l13 : Int) (l14 : Int) (l15 : Int) (l16 : Int) (l17 : Int) (hq : ∀ j, inR (q.2 j)) (hq1 : q.1 ≤ 260) (hK : KW K M) (h0 : TopAt K 2) (h9 : mS K 2231 = (1, 400)) (h10 : mS K 2232 = (1, 400)) (h11 : mS K 2233 = (1, 400)) (h : Ci d q9_of [zr 2, zi l15, zi 0] M (fun x2 M1 => KW K M1 ∧ ((x2 = 1 → (False)) ∧ (¬ (x2 = 1) → (Ci d q9_of [zr 2, zi l15, zi 1] M1 (fun x6 M5 => KW K M5 ∧ ((x6 ≠ l16 → (False)) ∧ (¬ (x6 ≠ l16) → ((l16 ≠ l12 → (False)) ∧ (¬ (l16 ≠ l12) → (Ci d q9_go [zr 2, zi l15, zi 5] M5 (fun x10 M9 => KW K M9 ∧ ((x10 = (-2003) → (XL q (d + 1) 935 [some (zr 1), some (zr 2), none, some (zi l3), some (zi l4), none, none, none, none, some (zr 2231), some (zr 2232), some (zr 2233), some (zi l12), some (zi l13), some (zi l14), some (zi l15), some (zi l16), some (zi l17), none, none, none, none, none, none] [] M9)) ∧ (¬ (x10 = (-2003)) → (False))))))))))))))) : XL q (d + 1) 890 [some (zr 1), some (zr 2), none, some (zi l3), some (zi l4), none, none, none, none, some (zr 2231), some (zr 2232), some (zr 2233), some (zi l12), some (zi l13), some (zi l14), some (zi l15), some (zi l16), some (zi l17), none, none, none, none, none, none] [] M := by
  refine XL.up (pc' := 891) (fun _ _ k => x_aload_n dXL_law_890 rfl rfl k) ?_
  refine XL.up (pc' := 893) (fun _ _ k => x_iload dXL_law_891 rfl k) ?_
  refine XL.up (pc' := 894) (fun _ _ k => x_iconst dXL_law_893 (show inR 0 from ⟨by decide, by decide⟩) k) ?_
  obtain ⟨x2, M1, hc4, hK3, h⟩ := h
  refine XL.up (pc' := 897) (st' := [zi x2]) (fun _ _ k => x_callVK (ci := 9) (as := [zi l15, zi 0]) (st := []) hK k9_of lmL_35 dXL_law_894 rfl (by decide) (zs8 rfl) h0.1 ⟨_, _, rfl⟩ hc4 k) ?_
  refine XL.up (pc' := 898) (fun _ _ k => x_iconst dXL_law_897 (show inR 1 from ⟨by decide, by decide⟩) k) ?_
  refine XL.br (tgt := 933) (pc' := 901) (x2 = 1) (fun _ _ kt kf => x_icmp_eq dXL_law_898 rfl kt kf) (fun c => ?_) (fun c => ?_)
  · have h := h.1 c
    refine XL.up (pc' := 934) (fun _ _ k => x_iconst dXL_law_933 (show inR 0 from ⟨by decide, by decide⟩) k) ?_
    exact h.elim
  · have h := h.2 c
    refine XL.up (pc' := 902) (fun _ _ k => x_aload_n dXL_law_901 rfl rfl k) ?_
    refine XL.up (pc' := 904) (fun _ _ k => x_iload dXL_law_902 rfl k) ?_
    refine XL.up (pc' := 905) (fun _ _ k => x_iconst dXL_law_904 (show inR 1 from ⟨by decide, by decide⟩) k) ?_
    obtain ⟨x6, M5, hc8, hK7, h⟩ := h
    refine XL.up (pc' := 908) (st' := [zi x6]) (fun _ _ k => x_callVK (ci := 9) (as := [zi l15, zi 1]) (st := []) hK3 k9_of lmL_35 dXL_law_905 rfl (by decide) (zs8 rfl) h0.1 ⟨_, _, rfl⟩ hc8 k) ?_
    refine XL.up (pc' := 910) (fun _ _ k => x_iload dXL_law_908 rfl k) ?_
    refine XL.br (tgt := 933) (pc' := 913) (x6 ≠ l16) (fun _ _ kt kf => x_icmp_ne dXL_law_910 rfl kt kf) (fun c => ?_) (fun c => ?_)
    · have h := h.1 c
      refine XL.up (pc' := 934) (fun _ _ k => x_iconst dXL_law_933 (show inR 0 from ⟨by decide, by decide⟩) k) ?_
      exact h.elim
    · have h := h.2 c
      refine XL.up (pc' := 915) (fun _ _ k => x_iload dXL_law_913 rfl k) ?_
      refine XL.up (pc' := 917) (fun _ _ k => x_iload dXL_law_915 rfl k) ?_
      refine XL.br (tgt := 933) (pc' := 920) (l16 ≠ l12) (fun _ _ kt kf => x_icmp_ne dXL_law_917 rfl kt kf) (fun c => ?_) (fun c => ?_)
      · have h := h.1 c
        refine XL.up (pc' := 934) (fun _ _ k => x_iconst dXL_law_933 (show inR 0 from ⟨by decide, by decide⟩) k) ?_
        exact h.elim
      · have h := h.2 c
        refine XL.up (pc' := 921) (fun _ _ k => x_aload_n dXL_law_920 rfl rfl k) ?_
        refine XL.up (pc' := 923) (fun _ _ k => x_iload dXL_law_921 rfl k) ?_
        refine XL.up (pc' := 924) (fun _ _ k => x_iconst dXL_law_923 (show inR 5 from ⟨by decide, by decide⟩) k) ?_
        obtain ⟨x10, M9, hc12, hK11, h⟩ := h
        refine XL.up (pc' := 927) (st' := [zi x10]) (fun _ _ k => x_callVK (ci := 9) (as := [zi l15, zi 5]) (st := []) hK7 k9_go lmL_42 dXL_law_924 rfl (by decide) (zs8 rfl) h0.1 ⟨_, _, rfl⟩ hc12 k) ?_
        refine XL.up (pc' := 930) (fun _ _ k => x_sipush dXL_law_927 (show inR (-2003) from ⟨by decide, by decide⟩) (by decide) k) ?_
        refine XL.br (tgt := 935) (pc' := 933) (x10 = (-2003)) (fun _ _ kt kf => x_icmp_eq dXL_law_930 rfl kt kf) (fun c => ?_) (fun c => ?_)
        · have h := h.1 c
          exact h
        · have h := h.2 c
          refine XL.up (pc' := 934) (fun _ _ k => x_iconst dXL_law_933 (show inR 0 from ⟨by decide, by decide⟩) k) ?_
          exact h.elim
set_option maxHeartbeats 4000000 in
set_option maxRecDepth 20000 in
theorem BL_935 {q : Nat × (Nat → Int)} {d : Nat} {K M : ZMem} (l3 : Int) (l4 : Int) (l12 : Int) (l13 : Int) (l14 : Int) (l15 : Int) (l16 : Int) (l17 : Int) (hq : ∀ j, inR (q.2 j)) (hq1 : q.1 ≤ 260) (hK : KW K M) (h0 : TopAt K 2) (h9 : mS K 2231 = (1, 400)) (h10 : mS K 2232 = (1, 400)) (h11 : mS K 2233 = (1, 400)) (h : XL q (d + 1) 942 [some (zr 1), some (zr 2), none, some (zi l3), some (zi l4), none, none, none, none, some (zr 2231), some (zr 2232), some (zr 2233), some (zi l12), some (zi l13), some (zi l14), some (zi l15), some (zi l16), some (zi l17), some (zr (mz M + 1)), none, none, none, none, none] [] (zNew M (6, 400) 400)) : XL q (d + 1) 935 [some (zr 1), some (zr 2), none, some (zi l3), some (zi l4), none, none, none, none, some (zr 2231), some (zr 2232), some (zr 2233), some (zi l12), some (zi l13), some (zi l14), some (zi l15), some (zi l16), some (zi l17), none, none, none, none, none, none] [] M := by
  refine XL.up (pc' := 938) (fun _ _ k => x_sipush dXL_law_935 (show inR 400 from ⟨by decide, by decide⟩) (by decide) k) ?_
  refine XL.up (pc' := 940) (fun _ _ k => x_newarrayB (n := 400) dXL_law_938 (by decide) k) ?_
  refine XL.up (pc' := 942) (L' := [some (zr 1), some (zr 2), none, some (zi l3), some (zi l4), none, none, none, none, some (zr 2231), some (zr 2232), some (zr 2233), some (zi l12), some (zi l13), some (zi l14), some (zi l15), some (zi l16), some (zi l17), some (zr (mz M + 1)), none, none, none, none, none]) (fun _ _ k => x_astore dXL_law_940 (by decide) rfl k) ?_
  exact h
set_option maxHeartbeats 4000000 in
set_option maxRecDepth 20000 in
theorem BL_942 {q : Nat × (Nat → Int)} {d : Nat} {K M : ZMem} (l3 : Int) (l4 : Int) (l12 : Int) (l13 : Int) (l14 : Int) (l15 : Int) (l16 : Int) (l17 : Int) (l18 : Nat) (hq : ∀ j, inR (q.2 j)) (hq1 : q.1 ≤ 260) (hK : KW K M) (h0 : TopAt K 2) (h9 : mS K 2231 = (1, 400)) (h10 : mS K 2232 = (1, 400)) (h11 : mS K 2233 = (1, 400)) (h18 : mS K l18 = (6, 400)) (h : XL q (d + 1) 945 [some (zr 1), some (zr 2), none, some (zi l3), some (zi l4), none, none, none, none, some (zr 2231), some (zr 2232), some (zr 2233), some (zi l12), some (zi l13), some (zi l14), some (zi l15), some (zi l16), some (zi l17), some (zr l18), some (zi 0), none, none, none, none] [] M) : XL q (d + 1) 942 [some (zr 1), some (zr 2), none, some (zi l3), some (zi l4), none, none, none, none, some (zr 2231), some (zr 2232), some (zr 2233), some (zi l12), some (zi l13), some (zi l14), some (zi l15), some (zi l16), some (zi l17), some (zr l18), none, none, none, none, none] [] M := by
  refine XL.up (pc' := 943) (fun _ _ k => x_iconst dXL_law_942 (show inR 0 from ⟨by decide, by decide⟩) k) ?_
  refine XL.up (pc' := 945) (L' := [some (zr 1), some (zr 2), none, some (zi l3), some (zi l4), none, none, none, none, some (zr 2231), some (zr 2232), some (zr 2233), some (zi l12), some (zi l13), some (zi l14), some (zi l15), some (zi l16), some (zi l17), some (zr l18), some (zi 0), none, none, none, none]) (fun _ _ k => x_istore dXL_law_943 (by decide) rfl k) ?_
  exact h
set_option maxHeartbeats 4000000 in
set_option maxRecDepth 20000 in
theorem BL_945 {q : Nat × (Nat → Int)} {d : Nat} {K M : ZMem} (l3 : Int) (l4 : Int) (l12 : Int) (l13 : Int) (l14 : Int) (l15 : Int) (l16 : Int) (l17 : Int) (l18 : Nat) (l19 : Int) (hq : ∀ j, inR (q.2 j)) (hq1 : q.1 ≤ 260) (hK : KW K M) (h0 : TopAt K 2) (h9 : mS K 2231 = (1, 400)) (h10 : mS K 2232 = (1, 400)) (h11 : mS K 2233 = (1, 400)) (h18 : mS K l18 = (6, 400)) (h : ((l16 ≤ l19 → (XL q (d + 1) 1134 [some (zr 1), some (zr 2), none, some (zi l3), some (zi l4), none, none, none, none, some (zr 2231), some (zr 2232), some (zr 2233), some (zi l12), some (zi l13), some (zi l14), some (zi l15), some (zi l16), some (zi l17), none, none, none, none, none, none] [] M)) ∧ (¬ (l16 ≤ l19) → (XL q (d + 1) 958 [some (zr 1), some (zr 2), none, some (zi l3), some (zi l4), none, none, none, none, some (zr 2231), some (zr 2232), some (zr 2233), some (zi l12), some (zi l13), some (zi l14), some (zi l15), some (zi l16), some (zi l17), some (zr l18), some (zi l19), some (zi (-1)), some (zi 0), none, none] [] M)))) : XL q (d + 1) 945 [some (zr 1), some (zr 2), none, some (zi l3), some (zi l4), none, none, none, none, some (zr 2231), some (zr 2232), some (zr 2233), some (zi l12), some (zi l13), some (zi l14), some (zi l15), some (zi l16), some (zi l17), some (zr l18), some (zi l19), none, none, none, none] [] M := by
  refine XL.up (pc' := 947) (fun _ _ k => x_iload dXL_law_945 rfl k) ?_
  refine XL.up (pc' := 949) (fun _ _ k => x_iload dXL_law_947 rfl k) ?_
  refine XL.br (tgt := 1134) (pc' := 952) (l16 ≤ l19) (fun _ _ kt kf => x_icmp_ge dXL_law_949 rfl kt kf) (fun c => ?_) (fun c => ?_)
  · have h := h.1 c
    exact XL.less (L' := [some (zr 1), some (zr 2), none, some (zi l3), some (zi l4), none, none, none, none, some (zr 2231), some (zr 2232), some (zr 2233), some (zi l12), some (zi l13), some (zi l14), some (zi l15), some (zi l16), some (zi l17), none, none, none, none, none, none]) (⟨rfl, ⟨rfl, ⟨rfl, ⟨rfl, ⟨rfl, ⟨rfl, ⟨rfl, ⟨rfl, ⟨rfl, ⟨rfl, ⟨rfl, ⟨rfl, ⟨rfl, trivial⟩⟩⟩⟩⟩⟩⟩⟩⟩⟩⟩⟩⟩) h
  · have h := h.2 c
    refine XL.up (pc' := 953) (fun _ _ k => x_iconst dXL_law_952 (show inR (-1) from ⟨by decide, by decide⟩) k) ?_
    refine XL.up (pc' := 955) (L' := [some (zr 1), some (zr 2), none, some (zi l3), some (zi l4), none, none, none, none, some (zr 2231), some (zr 2232), some (zr 2233), some (zi l12), some (zi l13), some (zi l14), some (zi l15), some (zi l16), some (zi l17), some (zr l18), some (zi l19), some (zi (-1)), none, none, none]) (fun _ _ k => x_istore dXL_law_953 (by decide) rfl k) ?_
    refine XL.up (pc' := 956) (fun _ _ k => x_iconst dXL_law_955 (show inR 0 from ⟨by decide, by decide⟩) k) ?_
    refine XL.up (pc' := 958) (L' := [some (zr 1), some (zr 2), none, some (zi l3), some (zi l4), none, none, none, none, some (zr 2231), some (zr 2232), some (zr 2233), some (zi l12), some (zi l13), some (zi l14), some (zi l15), some (zi l16), some (zi l17), some (zr l18), some (zi l19), some (zi (-1)), some (zi 0), none, none]) (fun _ _ k => x_istore dXL_law_956 (by decide) rfl k) ?_
    exact h
set_option maxHeartbeats 4000000 in
set_option maxRecDepth 20000 in
theorem BL_958 {q : Nat × (Nat → Int)} {d : Nat} {K M : ZMem} (l3 : Int) (l4 : Int) (l12 : Int) (l13 : Int) (l14 : Int) (l15 : Int) (l16 : Int) (l17 : Int) (l18 : Nat) (l19 : Int) (l20 : Int) (l21 : Int) (hq : ∀ j, inR (q.2 j)) (hq1 : q.1 ≤ 260) (hK : KW K M) (h0 : TopAt K 2) (h9 : mS K 2231 = (1, 400)) (h10 : mS K 2232 = (1, 400)) (h11 : mS K 2233 = (1, 400)) (h18 : mS K l18 = (6, 400)) (h : ((l12 ≤ l21 → (XL q (d + 1) 1039 [some (zr 1), some (zr 2), none, some (zi l3), some (zi l4), none, none, none, none, some (zr 2231), some (zr 2232), some (zr 2233), some (zi l12), some (zi l13), some (zi l14), some (zi l15), some (zi l16), some (zi l17), some (zr l18), some (zi l19), some (zi l20), none, none, none] [] M)) ∧ (¬ (l12 ≤ l21) → ((0 ≤ l20 → (XL q (d + 1) 1039 [some (zr 1), some (zr 2), none, some (zi l3), some (zi l4), none, none, none, none, some (zr 2231), some (zr 2232), some (zr 2233), some (zi l12), some (zi l13), some (zi l14), some (zi l15), some (zi l16), some (zi l17), some (zr l18), some (zi l19), some (zi l20), none, none, none] [] M)) ∧ (¬ (0 ≤ l20) → ((0 ≤ l21) ∧ (l21 < 400) ∧ (((mI M l18 l21.toNat) ≠ 0 → (XL q (d + 1) 1033 [some (zr 1), some (zr 2), none, some (zi l3), some (zi l4), none, none, none, none, some (zr 2231), some (zr 2232), some (zr 2233), some (zi l12), some (zi l13), some (zi l14), some (zi l15), some (zi l16), some (zi l17), some (zr l18), some (zi l19), some (zi l20), some (zi l21), none, none] [] M)) ∧ (¬ ((mI M l18 l21.toNat) ≠ 0) → (Ci d q9_answer [zr 2, zi l15, zi l19, zi 0] M (fun x4 M3 => KW K M3 ∧ (0 ≤ l21) ∧ (l21 < 400) ∧ ((x4 ≠ (mI M3 2231 l21.toNat) → (XL q (d + 1) 1033 [some (zr 1), some (zr 2), none, some (zi l3), some (zi l4), none, none, none, none, some (zr 2231), some (zr 2232), some (zr 2233), some (zi l12), some (zi l13), some (zi l14), some (zi l15), some (zi l16), some (zi l17), some (zr l18), some (zi l19), some (zi l20), some (zi l21), none, none] [] M3)) ∧ (¬ (x4 ≠ (mI M3 2231 l21.toNat)) → (Ci d q9_answer [zr 2, zi l15, zi l19, zi 1] M3 (fun x10 M9 => KW K M9 ∧ (0 ≤ l21) ∧ (l21 < 400) ∧ ((x10 ≠ (mI M9 2232 l21.toNat) → (XL q (d + 1) 1033 [some (zr 1), some (zr 2), none, some (zi l3), some (zi l4), none, none, none, none, some (zr 2231), some (zr 2232), some (zr 2233), some (zi l12), some (zi l13), some (zi l14), some (zi l15), some (zi l16), some (zi l17), some (zr l18), some (zi l19), some (zi l20), some (zi l21), none, none] [] M9)) ∧ (¬ (x10 ≠ (mI M9 2232 l21.toNat)) → (Ci d q9_answer [zr 2, zi l15, zi l19, zi 2] M9 (fun x16 M15 => KW K M15 ∧ (0 ≤ l21) ∧ (l21 < 400) ∧ ((x16 ≠ (mI M15 2233 l21.toNat) → (XL q (d + 1) 1033 [some (zr 1), some (zr 2), none, some (zi l3), some (zi l4), none, none, none, none, some (zr 2231), some (zr 2232), some (zr 2233), some (zi l12), some (zi l13), some (zi l14), some (zi l15), some (zi l16), some (zi l17), some (zr l18), some (zi l19), some (zi l20), some (zi l21), none, none] [] M15)) ∧ (¬ (x16 ≠ (mI M15 2233 l21.toNat)) → (XL q (d + 1) 1033 [some (zr 1), some (zr 2), none, some (zi l3), some (zi l4), none, none, none, none, some (zr 2231), some (zr 2232), some (zr 2233), some (zi l12), some (zi l13), some (zi l14), some (zi l15), some (zi l16), some (zi l17), some (zr l18), some (zi l19), some (zi l21), some (zi l21), none, none] [] M15))))))))))))))))))))) : XL q (d + 1) 958 [some (zr 1), some (zr 2), none, some (zi l3), some (zi l4), none, none, none, none, some (zr 2231), some (zr 2232), some (zr 2233), some (zi l12), some (zi l13), some (zi l14), some (zi l15), some (zi l16), some (zi l17), some (zr l18), some (zi l19), some (zi l20), some (zi l21), none, none] [] M := by
  refine XL.up (pc' := 960) (fun _ _ k => x_iload dXL_law_958 rfl k) ?_
  refine XL.up (pc' := 962) (fun _ _ k => x_iload dXL_law_960 rfl k) ?_
  refine XL.br (tgt := 1039) (pc' := 965) (l12 ≤ l21) (fun _ _ kt kf => x_icmp_ge dXL_law_962 rfl kt kf) (fun c => ?_) (fun c => ?_)
  · have h := h.1 c
    exact XL.less (L' := [some (zr 1), some (zr 2), none, some (zi l3), some (zi l4), none, none, none, none, some (zr 2231), some (zr 2232), some (zr 2233), some (zi l12), some (zi l13), some (zi l14), some (zi l15), some (zi l16), some (zi l17), some (zr l18), some (zi l19), some (zi l20), none, none, none]) (⟨rfl, ⟨rfl, ⟨rfl, ⟨rfl, ⟨rfl, ⟨rfl, ⟨rfl, ⟨rfl, ⟨rfl, ⟨rfl, ⟨rfl, ⟨rfl, ⟨rfl, ⟨rfl, ⟨rfl, ⟨rfl, trivial⟩⟩⟩⟩⟩⟩⟩⟩⟩⟩⟩⟩⟩⟩⟩⟩) h
  · have h := h.2 c
    refine XL.up (pc' := 967) (fun _ _ k => x_iload dXL_law_965 rfl k) ?_
    refine XL.br (tgt := 1039) (pc' := 970) (0 ≤ l20) (fun _ _ kt kf => x_if_ge dXL_law_967 rfl kt kf) (fun c => ?_) (fun c => ?_)
    · have h := h.1 c
      exact XL.less (L' := [some (zr 1), some (zr 2), none, some (zi l3), some (zi l4), none, none, none, none, some (zr 2231), some (zr 2232), some (zr 2233), some (zi l12), some (zi l13), some (zi l14), some (zi l15), some (zi l16), some (zi l17), some (zr l18), some (zi l19), some (zi l20), none, none, none]) (⟨rfl, ⟨rfl, ⟨rfl, ⟨rfl, ⟨rfl, ⟨rfl, ⟨rfl, ⟨rfl, ⟨rfl, ⟨rfl, ⟨rfl, ⟨rfl, ⟨rfl, ⟨rfl, ⟨rfl, ⟨rfl, trivial⟩⟩⟩⟩⟩⟩⟩⟩⟩⟩⟩⟩⟩⟩⟩⟩) h
    · have h := h.2 c
      refine XL.up (pc' := 972) (fun _ _ k => x_aload dXL_law_970 rfl k) ?_
      refine XL.up (pc' := 974) (fun _ _ k => x_iload dXL_law_972 rfl k) ?_
      obtain ⟨g1, h⟩ := h
      obtain ⟨g2, h⟩ := h
      refine XL.up (pc' := 975) (fun _ _ k => x_zald hK dXL_law_974 h18 g1 g2 k) ?_
      refine XL.br (tgt := 1033) (pc' := 978) ((mI M l18 l21.toNat) ≠ 0) (fun _ _ kt kf => x_if_ne dXL_law_975 rfl kt kf) (fun c => ?_) (fun c => ?_)
      · have h := h.1 c
        exact h
      · have h := h.2 c
        refine XL.up (pc' := 979) (fun _ _ k => x_aload_n dXL_law_978 rfl rfl k) ?_
        refine XL.up (pc' := 981) (fun _ _ k => x_iload dXL_law_979 rfl k) ?_
        refine XL.up (pc' := 983) (fun _ _ k => x_iload dXL_law_981 rfl k) ?_
        refine XL.up (pc' := 984) (fun _ _ k => x_iconst dXL_law_983 (show inR 0 from ⟨by decide, by decide⟩) k) ?_
        obtain ⟨x4, M3, hc6, hK5, h⟩ := h
        refine XL.up (pc' := 987) (st' := [zi x4]) (fun _ _ k => x_callVK (ci := 9) (as := [zi l15, zi l19, zi 0]) (st := []) hK k9_answer lmL_48 dXL_law_984 rfl (by decide) (zs8 rfl) h0.1 ⟨_, _, rfl⟩ hc6 k) ?_
        refine XL.up (pc' := 989) (fun _ _ k => x_aload dXL_law_987 rfl k) ?_
        refine XL.up (pc' := 991) (fun _ _ k => x_iload dXL_law_989 rfl k) ?_
        obtain ⟨g7, h⟩ := h
        obtain ⟨g8, h⟩ := h
        refine XL.up (pc' := 992) (fun _ _ k => x_ialoadK hK5 dXL_law_991 h9 g7 g8 k) ?_
        refine XL.br (tgt := 1033) (pc' := 995) (x4 ≠ (mI M3 2231 l21.toNat)) (fun _ _ kt kf => x_icmp_ne dXL_law_992 rfl kt kf) (fun c => ?_) (fun c => ?_)
        · have h := h.1 c
          exact h
        · have h := h.2 c
          refine XL.up (pc' := 996) (fun _ _ k => x_aload_n dXL_law_995 rfl rfl k) ?_
          refine XL.up (pc' := 998) (fun _ _ k => x_iload dXL_law_996 rfl k) ?_
          refine XL.up (pc' := 1000) (fun _ _ k => x_iload dXL_law_998 rfl k) ?_
          refine XL.up (pc' := 1001) (fun _ _ k => x_iconst dXL_law_1000 (show inR 1 from ⟨by decide, by decide⟩) k) ?_
          obtain ⟨x10, M9, hc12, hK11, h⟩ := h
          refine XL.up (pc' := 1004) (st' := [zi x10]) (fun _ _ k => x_callVK (ci := 9) (as := [zi l15, zi l19, zi 1]) (st := []) hK5 k9_answer lmL_48 dXL_law_1001 rfl (by decide) (zs8 rfl) h0.1 ⟨_, _, rfl⟩ hc12 k) ?_
          refine XL.up (pc' := 1006) (fun _ _ k => x_aload dXL_law_1004 rfl k) ?_
          refine XL.up (pc' := 1008) (fun _ _ k => x_iload dXL_law_1006 rfl k) ?_
          obtain ⟨g13, h⟩ := h
          obtain ⟨g14, h⟩ := h
          refine XL.up (pc' := 1009) (fun _ _ k => x_ialoadK hK11 dXL_law_1008 h10 g13 g14 k) ?_
          refine XL.br (tgt := 1033) (pc' := 1012) (x10 ≠ (mI M9 2232 l21.toNat)) (fun _ _ kt kf => x_icmp_ne dXL_law_1009 rfl kt kf) (fun c => ?_) (fun c => ?_)
          · have h := h.1 c
            exact h
          · have h := h.2 c
            refine XL.up (pc' := 1013) (fun _ _ k => x_aload_n dXL_law_1012 rfl rfl k) ?_
            refine XL.up (pc' := 1015) (fun _ _ k => x_iload dXL_law_1013 rfl k) ?_
            refine XL.up (pc' := 1017) (fun _ _ k => x_iload dXL_law_1015 rfl k) ?_
            refine XL.up (pc' := 1018) (fun _ _ k => x_iconst dXL_law_1017 (show inR 2 from ⟨by decide, by decide⟩) k) ?_
            obtain ⟨x16, M15, hc18, hK17, h⟩ := h
            refine XL.up (pc' := 1021) (st' := [zi x16]) (fun _ _ k => x_callVK (ci := 9) (as := [zi l15, zi l19, zi 2]) (st := []) hK11 k9_answer lmL_48 dXL_law_1018 rfl (by decide) (zs8 rfl) h0.1 ⟨_, _, rfl⟩ hc18 k) ?_
            refine XL.up (pc' := 1023) (fun _ _ k => x_aload dXL_law_1021 rfl k) ?_
            refine XL.up (pc' := 1025) (fun _ _ k => x_iload dXL_law_1023 rfl k) ?_
            obtain ⟨g19, h⟩ := h
            obtain ⟨g20, h⟩ := h
            refine XL.up (pc' := 1026) (fun _ _ k => x_ialoadK hK17 dXL_law_1025 h11 g19 g20 k) ?_
            refine XL.br (tgt := 1033) (pc' := 1029) (x16 ≠ (mI M15 2233 l21.toNat)) (fun _ _ kt kf => x_icmp_ne dXL_law_1026 rfl kt kf) (fun c => ?_) (fun c => ?_)
            · have h := h.1 c
              exact h
            · have h := h.2 c
              refine XL.up (pc' := 1031) (fun _ _ k => x_iload dXL_law_1029 rfl k) ?_
              refine XL.up (pc' := 1033) (L' := [some (zr 1), some (zr 2), none, some (zi l3), some (zi l4), none, none, none, none, some (zr 2231), some (zr 2232), some (zr 2233), some (zi l12), some (zi l13), some (zi l14), some (zi l15), some (zi l16), some (zi l17), some (zr l18), some (zi l19), some (zi l21), some (zi l21), none, none]) (fun _ _ k => x_istore dXL_law_1031 (by decide) rfl k) ?_
              exact h
set_option maxHeartbeats 4000000 in
set_option maxRecDepth 20000 in
theorem BL_1033 {q : Nat × (Nat → Int)} {d : Nat} {K M : ZMem} (l3 : Int) (l4 : Int) (l12 : Int) (l13 : Int) (l14 : Int) (l15 : Int) (l16 : Int) (l17 : Int) (l18 : Nat) (l19 : Int) (l20 : Int) (l21 : Int) (hq : ∀ j, inR (q.2 j)) (hq1 : q.1 ≤ 260) (hK : KW K M) (h0 : TopAt K 2) (h9 : mS K 2231 = (1, 400)) (h10 : mS K 2232 = (1, 400)) (h11 : mS K 2233 = (1, 400)) (h18 : mS K l18 = (6, 400)) (h : (inR (l21 + 1)) ∧ XL q (d + 1) 958 [some (zr 1), some (zr 2), none, some (zi l3), some (zi l4), none, none, none, none, some (zr 2231), some (zr 2232), some (zr 2233), some (zi l12), some (zi l13), some (zi l14), some (zi l15), some (zi l16), some (zi l17), some (zr l18), some (zi l19), some (zi l20), some (zi (l21 + 1)), none, none] [] M) : XL q (d + 1) 1033 [some (zr 1), some (zr 2), none, some (zi l3), some (zi l4), none, none, none, none, some (zr 2231), some (zr 2232), some (zr 2233), some (zi l12), some (zi l13), some (zi l14), some (zi l15), some (zi l16), some (zi l17), some (zr l18), some (zi l19), some (zi l20), some (zi l21), none, none] [] M := by
  obtain ⟨g1, h⟩ := h
  refine XL.up (pc' := 1036) (L' := [some (zr 1), some (zr 2), none, some (zi l3), some (zi l4), none, none, none, none, some (zr 2231), some (zr 2232), some (zr 2233), some (zi l12), some (zi l13), some (zi l14), some (zi l15), some (zi l16), some (zi l17), some (zr l18), some (zi l19), some (zi l20), some (zi (l21 + 1)), none, none]) (fun _ _ k => x_iinc dXL_law_1033 rfl g1 (by decide) rfl k) ?_
  refine XL.up (pc' := 958) (fun _ _ k => x_goto dXL_law_1036 rfl k) ?_
  exact h
set_option maxHeartbeats 4000000 in
set_option maxRecDepth 20000 in
theorem BL_1039 {q : Nat × (Nat → Int)} {d : Nat} {K M : ZMem} (l3 : Int) (l4 : Int) (l12 : Int) (l13 : Int) (l14 : Int) (l15 : Int) (l16 : Int) (l17 : Int) (l18 : Nat) (l19 : Int) (l20 : Int) (hq : ∀ j, inR (q.2 j)) (hq1 : q.1 ≤ 260) (hK : KW K M) (h0 : TopAt K 2) (h9 : mS K 2231 = (1, 400)) (h10 : mS K 2232 = (1, 400)) (h11 : mS K 2233 = (1, 400)) (h18 : mS K l18 = (6, 400)) (h : ((l20 < 0 → (False)) ∧ (¬ (l20 < 0) → (Ci d q9_answer [zr 2, zi l15, zi l19, zi 8] M (fun x2 M1 => KW K M1 ∧ ((x2 ≠ 3 → (False)) ∧ (¬ (x2 ≠ 3) → (Ci d q9_answer [zr 2, zi l15, zi l19, zi 10] M1 (fun x6 M5 => KW K M5 ∧ (0 ≤ l20) ∧ (l20 < 400) ∧ (0 ≤ l20) ∧ (l20 < 400) ∧ (inR ((mI M5 2231 l20.toNat) * (mI M5 2232 l20.toNat))) ∧ (0 ≤ l20) ∧ (l20 < 400) ∧ (inR (((mI M5 2231 l20.toNat) * (mI M5 2232 l20.toNat)) - (mI M5 2233 l20.toNat))) ∧ ((x6 ≠ (((mI M5 2231 l20.toNat) * (mI M5 2232 l20.toNat)) - (mI M5 2233 l20.toNat)) → (False)) ∧ (¬ (x6 ≠ (((mI M5 2231 l20.toNat) * (mI M5 2232 l20.toNat)) - (mI M5 2233 l20.toNat))) → (Ci d q9_answer [zr 2, zi l15, zi l19, zi 3] M5 (fun x18 M17 => KW K M17 ∧ ((x18 = 0 → (XL q (d + 1) 1102 [some (zr 1), some (zr 2), none, some (zi l3), some (zi l4), none, none, none, none, some (zr 2231), some (zr 2232), some (zr 2233), some (zi l12), some (zi l13), some (zi l14), some (zi l15), some (zi l16), some (zi l17), some (zr l18), some (zi l19), some (zi l20), none, none, none] [] M17)) ∧ (¬ (x18 = 0) → (False)))))))))))))))) : XL q (d + 1) 1039 [some (zr 1), some (zr 2), none, some (zi l3), some (zi l4), none, none, none, none, some (zr 2231), some (zr 2232), some (zr 2233), some (zi l12), some (zi l13), some (zi l14), some (zi l15), some (zi l16), some (zi l17), some (zr l18), some (zi l19), some (zi l20), none, none, none] [] M := by
  refine XL.up (pc' := 1041) (fun _ _ k => x_iload dXL_law_1039 rfl k) ?_
  refine XL.br (tgt := 1100) (pc' := 1044) (l20 < 0) (fun _ _ kt kf => x_if_lt dXL_law_1041 rfl kt kf) (fun c => ?_) (fun c => ?_)
  · have h := h.1 c
    refine XL.up (pc' := 1101) (fun _ _ k => x_iconst dXL_law_1100 (show inR 0 from ⟨by decide, by decide⟩) k) ?_
    exact h.elim
  · have h := h.2 c
    refine XL.up (pc' := 1045) (fun _ _ k => x_aload_n dXL_law_1044 rfl rfl k) ?_
    refine XL.up (pc' := 1047) (fun _ _ k => x_iload dXL_law_1045 rfl k) ?_
    refine XL.up (pc' := 1049) (fun _ _ k => x_iload dXL_law_1047 rfl k) ?_
    refine XL.up (pc' := 1051) (fun _ _ k => x_bipush dXL_law_1049 (show inR 8 from ⟨by decide, by decide⟩) (by decide) k) ?_
    obtain ⟨x2, M1, hc4, hK3, h⟩ := h
    refine XL.up (pc' := 1054) (st' := [zi x2]) (fun _ _ k => x_callVK (ci := 9) (as := [zi l15, zi l19, zi 8]) (st := []) hK k9_answer lmL_48 dXL_law_1051 rfl (by decide) (zs8 rfl) h0.1 ⟨_, _, rfl⟩ hc4 k) ?_
    refine XL.up (pc' := 1055) (fun _ _ k => x_iconst dXL_law_1054 (show inR 3 from ⟨by decide, by decide⟩) k) ?_
    refine XL.br (tgt := 1100) (pc' := 1058) (x2 ≠ 3) (fun _ _ kt kf => x_icmp_ne dXL_law_1055 rfl kt kf) (fun c => ?_) (fun c => ?_)
    · have h := h.1 c
      refine XL.up (pc' := 1101) (fun _ _ k => x_iconst dXL_law_1100 (show inR 0 from ⟨by decide, by decide⟩) k) ?_
      exact h.elim
    · have h := h.2 c
      refine XL.up (pc' := 1059) (fun _ _ k => x_aload_n dXL_law_1058 rfl rfl k) ?_
      refine XL.up (pc' := 1061) (fun _ _ k => x_iload dXL_law_1059 rfl k) ?_
      refine XL.up (pc' := 1063) (fun _ _ k => x_iload dXL_law_1061 rfl k) ?_
      refine XL.up (pc' := 1065) (fun _ _ k => x_bipush dXL_law_1063 (show inR 10 from ⟨by decide, by decide⟩) (by decide) k) ?_
      obtain ⟨x6, M5, hc8, hK7, h⟩ := h
      refine XL.up (pc' := 1068) (st' := [zi x6]) (fun _ _ k => x_callVK (ci := 9) (as := [zi l15, zi l19, zi 10]) (st := []) hK3 k9_answer lmL_48 dXL_law_1065 rfl (by decide) (zs8 rfl) h0.1 ⟨_, _, rfl⟩ hc8 k) ?_
      refine XL.up (pc' := 1070) (fun _ _ k => x_aload dXL_law_1068 rfl k) ?_
      refine XL.up (pc' := 1072) (fun _ _ k => x_iload dXL_law_1070 rfl k) ?_
      obtain ⟨g9, h⟩ := h
      obtain ⟨g10, h⟩ := h
      refine XL.up (pc' := 1073) (fun _ _ k => x_ialoadK hK7 dXL_law_1072 h9 g9 g10 k) ?_
      refine XL.up (pc' := 1075) (fun _ _ k => x_aload dXL_law_1073 rfl k) ?_
      refine XL.up (pc' := 1077) (fun _ _ k => x_iload dXL_law_1075 rfl k) ?_
      obtain ⟨g11, h⟩ := h
      obtain ⟨g12, h⟩ := h
      refine XL.up (pc' := 1078) (fun _ _ k => x_ialoadK hK7 dXL_law_1077 h10 g11 g12 k) ?_
      obtain ⟨g13, h⟩ := h
      refine XL.up (pc' := 1079) (fun _ _ k => x_imul dXL_law_1078 g13 k) ?_
      refine XL.up (pc' := 1081) (fun _ _ k => x_aload dXL_law_1079 rfl k) ?_
      refine XL.up (pc' := 1083) (fun _ _ k => x_iload dXL_law_1081 rfl k) ?_
      obtain ⟨g14, h⟩ := h
      obtain ⟨g15, h⟩ := h
      refine XL.up (pc' := 1084) (fun _ _ k => x_ialoadK hK7 dXL_law_1083 h11 g14 g15 k) ?_
      obtain ⟨g16, h⟩ := h
      refine XL.up (pc' := 1085) (fun _ _ k => x_isub dXL_law_1084 g16 k) ?_
      refine XL.br (tgt := 1100) (pc' := 1088) (x6 ≠ (((mI M5 2231 l20.toNat) * (mI M5 2232 l20.toNat)) - (mI M5 2233 l20.toNat))) (fun _ _ kt kf => x_icmp_ne dXL_law_1085 rfl kt kf) (fun c => ?_) (fun c => ?_)
      · have h := h.1 c
        refine XL.up (pc' := 1101) (fun _ _ k => x_iconst dXL_law_1100 (show inR 0 from ⟨by decide, by decide⟩) k) ?_
        exact h.elim
      · have h := h.2 c
        refine XL.up (pc' := 1089) (fun _ _ k => x_aload_n dXL_law_1088 rfl rfl k) ?_
        refine XL.up (pc' := 1091) (fun _ _ k => x_iload dXL_law_1089 rfl k) ?_
        refine XL.up (pc' := 1093) (fun _ _ k => x_iload dXL_law_1091 rfl k) ?_
        refine XL.up (pc' := 1094) (fun _ _ k => x_iconst dXL_law_1093 (show inR 3 from ⟨by decide, by decide⟩) k) ?_
        obtain ⟨x18, M17, hc20, hK19, h⟩ := h
        refine XL.up (pc' := 1097) (st' := [zi x18]) (fun _ _ k => x_callVK (ci := 9) (as := [zi l15, zi l19, zi 3]) (st := []) hK7 k9_answer lmL_48 dXL_law_1094 rfl (by decide) (zs8 rfl) h0.1 ⟨_, _, rfl⟩ hc20 k) ?_
        refine XL.br (tgt := 1102) (pc' := 1100) (x18 = 0) (fun _ _ kt kf => x_if_eq dXL_law_1097 rfl kt kf) (fun c => ?_) (fun c => ?_)
        · have h := h.1 c
          exact h
        · have h := h.2 c
          refine XL.up (pc' := 1101) (fun _ _ k => x_iconst dXL_law_1100 (show inR 0 from ⟨by decide, by decide⟩) k) ?_
          exact h.elim
set_option maxHeartbeats 4000000 in
set_option maxRecDepth 20000 in
theorem BL_1102 {q : Nat × (Nat → Int)} {d : Nat} {K M : ZMem} (l3 : Int) (l4 : Int) (l12 : Int) (l13 : Int) (l14 : Int) (l15 : Int) (l16 : Int) (l17 : Int) (l18 : Nat) (l19 : Int) (l20 : Int) (hq : ∀ j, inR (q.2 j)) (hq1 : q.1 ≤ 260) (hK : KW K M) (h0 : TopAt K 2) (h9 : mS K 2231 = (1, 400)) (h10 : mS K 2232 = (1, 400)) (h11 : mS K 2233 = (1, 400)) (h18 : mS K l18 = (6, 400)) (h : (0 ≤ l20) ∧ (l20 < 400) ∧ XL q (d + 1) 1108 [some (zr 1), some (zr 2), none, some (zi l3), some (zi l4), none, none, none, none, some (zr 2231), some (zr 2232), some (zr 2233), some (zi l12), some (zi l13), some (zi l14), some (zi l15), some (zi l16), some (zi l17), some (zr l18), some (zi l19), some (zi l20), none, none, none] [] (sI M l18 l20.toNat 1)) : XL q (d + 1) 1102 [some (zr 1), some (zr 2), none, some (zi l3), some (zi l4), none, none, none, none, some (zr 2231), some (zr 2232), some (zr 2233), some (zi l12), some (zi l13), some (zi l14), some (zi l15), some (zi l16), some (zi l17), some (zr l18), some (zi l19), some (zi l20), none, none, none] [] M := by
  refine XL.up (pc' := 1104) (fun _ _ k => x_aload dXL_law_1102 rfl k) ?_
  refine XL.up (pc' := 1106) (fun _ _ k => x_iload dXL_law_1104 rfl k) ?_
  refine XL.up (pc' := 1107) (fun _ _ k => x_iconst dXL_law_1106 (show inR 1 from ⟨by decide, by decide⟩) k) ?_
  obtain ⟨g1, h⟩ := h
  obtain ⟨g2, h⟩ := h
  refine XL.up (pc' := 1108) (fun _ _ k => x_zast hK dXL_law_1107 h18 g1 g2 k) ?_
  have hK3 := KW.sI hK l18 l20.toNat 1
  exact h
set_option maxHeartbeats 4000000 in
set_option maxRecDepth 20000 in
theorem BL_1108 {q : Nat × (Nat → Int)} {d : Nat} {K M : ZMem} (l3 : Int) (l4 : Int) (l12 : Int) (l13 : Int) (l14 : Int) (l15 : Int) (l16 : Int) (l17 : Int) (l18 : Nat) (l19 : Int) (l20 : Int) (hq : ∀ j, inR (q.2 j)) (hq1 : q.1 ≤ 260) (hK : KW K M) (h0 : TopAt K 2) (h9 : mS K 2231 = (1, 400)) (h10 : mS K 2232 = (1, 400)) (h11 : mS K 2233 = (1, 400)) (h18 : mS K l18 = (6, 400)) (h : ((l14 = 0 → ((l20 = l19 → (XL q (d + 1) 1128 [some (zr 1), some (zr 2), none, some (zi l3), some (zi l4), none, none, none, none, some (zr 2231), some (zr 2232), some (zr 2233), some (zi l12), some (zi l13), some (zi l14), some (zi l15), some (zi l16), some (zi l17), some (zr l18), some (zi l19), none, none, none, none] [] M)) ∧ (¬ (l20 = l19) → (False)))) ∧ (¬ (l14 = 0) → ((l14 ≠ 5 → (XL q (d + 1) 1128 [some (zr 1), some (zr 2), none, some (zi l3), some (zi l4), none, none, none, none, some (zr 2231), some (zr 2232), some (zr 2233), some (zi l12), some (zi l13), some (zi l14), some (zi l15), some (zi l16), some (zi l17), some (zr l18), some (zi l19), none, none, none, none] [] M)) ∧ (¬ (l14 ≠ 5) → ((l20 = l19 → (XL q (d + 1) 1128 [some (zr 1), some (zr 2), none, some (zi l3), some (zi l4), none, none, none, none, some (zr 2231), some (zr 2232), some (zr 2233), some (zi l12), some (zi l13), some (zi l14), some (zi l15), some (zi l16), some (zi l17), some (zr l18), some (zi l19), none, none, none, none] [] M)) ∧ (¬ (l20 = l19) → (False)))))))) : XL q (d + 1) 1108 [some (zr 1), some (zr 2), none, some (zi l3), some (zi l4), none, none, none, none, some (zr 2231), some (zr 2232), some (zr 2233), some (zi l12), some (zi l13), some (zi l14), some (zi l15), some (zi l16), some (zi l17), some (zr l18), some (zi l19), some (zi l20), none, none, none] [] M := by
  refine XL.up (pc' := 1110) (fun _ _ k => x_iload dXL_law_1108 rfl k) ?_
  refine XL.br (tgt := 1119) (pc' := 1113) (l14 = 0) (fun _ _ kt kf => x_if_eq dXL_law_1110 rfl kt kf) (fun c => ?_) (fun c => ?_)
  · have h := h.1 c
    refine XL.up (pc' := 1121) (fun _ _ k => x_iload dXL_law_1119 rfl k) ?_
    refine XL.up (pc' := 1123) (fun _ _ k => x_iload dXL_law_1121 rfl k) ?_
    refine XL.br (tgt := 1128) (pc' := 1126) (l20 = l19) (fun _ _ kt kf => x_icmp_eq dXL_law_1123 rfl kt kf) (fun c => ?_) (fun c => ?_)
    · have h := h.1 c
      exact XL.less (L' := [some (zr 1), some (zr 2), none, some (zi l3), some (zi l4), none, none, none, none, some (zr 2231), some (zr 2232), some (zr 2233), some (zi l12), some (zi l13), some (zi l14), some (zi l15), some (zi l16), some (zi l17), some (zr l18), some (zi l19), none, none, none, none]) (⟨rfl, ⟨rfl, ⟨rfl, ⟨rfl, ⟨rfl, ⟨rfl, ⟨rfl, ⟨rfl, ⟨rfl, ⟨rfl, ⟨rfl, ⟨rfl, ⟨rfl, ⟨rfl, ⟨rfl, trivial⟩⟩⟩⟩⟩⟩⟩⟩⟩⟩⟩⟩⟩⟩⟩) h
    · have h := h.2 c
      refine XL.up (pc' := 1127) (fun _ _ k => x_iconst dXL_law_1126 (show inR 0 from ⟨by decide, by decide⟩) k) ?_
      exact h.elim
  · have h := h.2 c
    refine XL.up (pc' := 1115) (fun _ _ k => x_iload dXL_law_1113 rfl k) ?_
    refine XL.up (pc' := 1116) (fun _ _ k => x_iconst dXL_law_1115 (show inR 5 from ⟨by decide, by decide⟩) k) ?_
    refine XL.br (tgt := 1128) (pc' := 1119) (l14 ≠ 5) (fun _ _ kt kf => x_icmp_ne dXL_law_1116 rfl kt kf) (fun c => ?_) (fun c => ?_)
    · have h := h.1 c
      exact XL.less (L' := [some (zr 1), some (zr 2), none, some (zi l3), some (zi l4), none, none, none, none, some (zr 2231), some (zr 2232), some (zr 2233), some (zi l12), some (zi l13), some (zi l14), some (zi l15), some (zi l16), some (zi l17), some (zr l18), some (zi l19), none, none, none, none]) (⟨rfl, ⟨rfl, ⟨rfl, ⟨rfl, ⟨rfl, ⟨rfl, ⟨rfl, ⟨rfl, ⟨rfl, ⟨rfl, ⟨rfl, ⟨rfl, ⟨rfl, ⟨rfl, ⟨rfl, trivial⟩⟩⟩⟩⟩⟩⟩⟩⟩⟩⟩⟩⟩⟩⟩) h
    · have h := h.2 c
      refine XL.up (pc' := 1121) (fun _ _ k => x_iload dXL_law_1119 rfl k) ?_
      refine XL.up (pc' := 1123) (fun _ _ k => x_iload dXL_law_1121 rfl k) ?_
      refine XL.br (tgt := 1128) (pc' := 1126) (l20 = l19) (fun _ _ kt kf => x_icmp_eq dXL_law_1123 rfl kt kf) (fun c => ?_) (fun c => ?_)
      · have h := h.1 c
        exact XL.less (L' := [some (zr 1), some (zr 2), none, some (zi l3), some (zi l4), none, none, none, none, some (zr 2231), some (zr 2232), some (zr 2233), some (zi l12), some (zi l13), some (zi l14), some (zi l15), some (zi l16), some (zi l17), some (zr l18), some (zi l19), none, none, none, none]) (⟨rfl, ⟨rfl, ⟨rfl, ⟨rfl, ⟨rfl, ⟨rfl, ⟨rfl, ⟨rfl, ⟨rfl, ⟨rfl, ⟨rfl, ⟨rfl, ⟨rfl, ⟨rfl, ⟨rfl, trivial⟩⟩⟩⟩⟩⟩⟩⟩⟩⟩⟩⟩⟩⟩⟩) h
      · have h := h.2 c
        refine XL.up (pc' := 1127) (fun _ _ k => x_iconst dXL_law_1126 (show inR 0 from ⟨by decide, by decide⟩) k) ?_
        exact h.elim
set_option maxHeartbeats 4000000 in
set_option maxRecDepth 20000 in
theorem BL_1128 {q : Nat × (Nat → Int)} {d : Nat} {K M : ZMem} (l3 : Int) (l4 : Int) (l12 : Int) (l13 : Int) (l14 : Int) (l15 : Int) (l16 : Int) (l17 : Int) (l18 : Nat) (l19 : Int) (hq : ∀ j, inR (q.2 j)) (hq1 : q.1 ≤ 260) (hK : KW K M) (h0 : TopAt K 2) (h9 : mS K 2231 = (1, 400)) (h10 : mS K 2232 = (1, 400)) (h11 : mS K 2233 = (1, 400)) (h18 : mS K l18 = (6, 400)) (h : (inR (l19 + 1)) ∧ XL q (d + 1) 945 [some (zr 1), some (zr 2), none, some (zi l3), some (zi l4), none, none, none, none, some (zr 2231), some (zr 2232), some (zr 2233), some (zi l12), some (zi l13), some (zi l14), some (zi l15), some (zi l16), some (zi l17), some (zr l18), some (zi (l19 + 1)), none, none, none, none] [] M) : XL q (d + 1) 1128 [some (zr 1), some (zr 2), none, some (zi l3), some (zi l4), none, none, none, none, some (zr 2231), some (zr 2232), some (zr 2233), some (zi l12), some (zi l13), some (zi l14), some (zi l15), some (zi l16), some (zi l17), some (zr l18), some (zi l19), none, none, none, none] [] M := by
  obtain ⟨g1, h⟩ := h
  refine XL.up (pc' := 1131) (L' := [some (zr 1), some (zr 2), none, some (zi l3), some (zi l4), none, none, none, none, some (zr 2231), some (zr 2232), some (zr 2233), some (zi l12), some (zi l13), some (zi l14), some (zi l15), some (zi l16), some (zi l17), some (zr l18), some (zi (l19 + 1)), none, none, none, none]) (fun _ _ k => x_iinc dXL_law_1128 rfl g1 (by decide) rfl k) ?_
  refine XL.up (pc' := 945) (fun _ _ k => x_goto dXL_law_1131 rfl k) ?_
  exact h
set_option maxHeartbeats 4000000 in
set_option maxRecDepth 20000 in
theorem BL_1134 {q : Nat × (Nat → Int)} {d : Nat} {K M : ZMem} (l3 : Int) (l4 : Int) (l12 : Int) (l13 : Int) (l14 : Int) (l15 : Int) (l16 : Int) (l17 : Int) (hq : ∀ j, inR (q.2 j)) (hq1 : q.1 ≤ 260) (hK : KW K M) (h0 : TopAt K 2) (h9 : mS K 2231 = (1, 400)) (h10 : mS K 2232 = (1, 400)) (h11 : mS K 2233 = (1, 400)) (h : Ci d q9_answer [zr 2, zi l15, zi l16, zi 0] M (fun x2 M1 => KW K M1 ∧ ((x2 ≠ (-2002) → (False)) ∧ (¬ (x2 ≠ (-2002)) → (Ci d q9_of [zr 2, zi l15, zi 2] M1 (fun x6 M5 => KW K M5 ∧ ((l17 ≤ x6 → (XL q (d + 1) 1163 [some (zr 1), some (zr 2), none, some (zi l3), some (zi l4), none, none, none, none, some (zr 2231), some (zr 2232), some (zr 2233), some (zi l12), some (zi l13), some (zi l14), some (zi l15), some (zi l16), none, none, none, none, none, none, none] [] M5)) ∧ (¬ (l17 ≤ x6) → (False))))))))) : XL q (d + 1) 1134 [some (zr 1), some (zr 2), none, some (zi l3), some (zi l4), none, none, none, none, some (zr 2231), some (zr 2232), some (zr 2233), some (zi l12), some (zi l13), some (zi l14), some (zi l15), some (zi l16), some (zi l17), none, none, none, none, none, none] [] M := by
  refine XL.up (pc' := 1135) (fun _ _ k => x_aload_n dXL_law_1134 rfl rfl k) ?_
  refine XL.up (pc' := 1137) (fun _ _ k => x_iload dXL_law_1135 rfl k) ?_
  refine XL.up (pc' := 1139) (fun _ _ k => x_iload dXL_law_1137 rfl k) ?_
  refine XL.up (pc' := 1140) (fun _ _ k => x_iconst dXL_law_1139 (show inR 0 from ⟨by decide, by decide⟩) k) ?_
  obtain ⟨x2, M1, hc4, hK3, h⟩ := h
  refine XL.up (pc' := 1143) (st' := [zi x2]) (fun _ _ k => x_callVK (ci := 9) (as := [zi l15, zi l16, zi 0]) (st := []) hK k9_answer lmL_48 dXL_law_1140 rfl (by decide) (zs8 rfl) h0.1 ⟨_, _, rfl⟩ hc4 k) ?_
  refine XL.up (pc' := 1146) (fun _ _ k => x_sipush dXL_law_1143 (show inR (-2002) from ⟨by decide, by decide⟩) (by decide) k) ?_
  refine XL.br (tgt := 1161) (pc' := 1149) (x2 ≠ (-2002)) (fun _ _ kt kf => x_icmp_ne dXL_law_1146 rfl kt kf) (fun c => ?_) (fun c => ?_)
  · have h := h.1 c
    refine XL.up (pc' := 1162) (fun _ _ k => x_iconst dXL_law_1161 (show inR 0 from ⟨by decide, by decide⟩) k) ?_
    exact h.elim
  · have h := h.2 c
    refine XL.up (pc' := 1151) (fun _ _ k => x_iload dXL_law_1149 rfl k) ?_
    refine XL.up (pc' := 1152) (fun _ _ k => x_aload_n dXL_law_1151 rfl rfl k) ?_
    refine XL.up (pc' := 1154) (fun _ _ k => x_iload dXL_law_1152 rfl k) ?_
    refine XL.up (pc' := 1155) (fun _ _ k => x_iconst dXL_law_1154 (show inR 2 from ⟨by decide, by decide⟩) k) ?_
    obtain ⟨x6, M5, hc8, hK7, h⟩ := h
    refine XL.up (pc' := 1158) (st' := [zi x6, zi l17]) (fun _ _ k => x_callVK (ci := 9) (as := [zi l15, zi 2]) (st := [zi l17]) hK3 k9_of lmL_35 dXL_law_1155 rfl (by decide) (zs8 rfl) h0.1 ⟨_, _, rfl⟩ hc8 k) ?_
    refine XL.br (tgt := 1163) (pc' := 1161) (l17 ≤ x6) (fun _ _ kt kf => x_icmp_le dXL_law_1158 rfl kt kf) (fun c => ?_) (fun c => ?_)
    · have h := h.1 c
      exact XL.less (L' := [some (zr 1), some (zr 2), none, some (zi l3), some (zi l4), none, none, none, none, some (zr 2231), some (zr 2232), some (zr 2233), some (zi l12), some (zi l13), some (zi l14), some (zi l15), some (zi l16), none, none, none, none, none, none, none]) (⟨rfl, ⟨rfl, ⟨rfl, ⟨rfl, ⟨rfl, ⟨rfl, ⟨rfl, ⟨rfl, ⟨rfl, ⟨rfl, ⟨rfl, ⟨rfl, trivial⟩⟩⟩⟩⟩⟩⟩⟩⟩⟩⟩⟩) h
    · have h := h.2 c
      refine XL.up (pc' := 1162) (fun _ _ k => x_iconst dXL_law_1161 (show inR 0 from ⟨by decide, by decide⟩) k) ?_
      exact h.elim
set_option maxHeartbeats 4000000 in
set_option maxRecDepth 20000 in
theorem BL_1163 {q : Nat × (Nat → Int)} {d : Nat} {K M : ZMem} (l3 : Int) (l4 : Int) (l12 : Int) (l13 : Int) (l14 : Int) (l15 : Int) (l16 : Int) (hq : ∀ j, inR (q.2 j)) (hq1 : q.1 ≤ 260) (hK : KW K M) (h0 : TopAt K 2) (h9 : mS K 2231 = (1, 400)) (h10 : mS K 2232 = (1, 400)) (h11 : mS K 2233 = (1, 400)) (h : XL q (d + 1) 1166 [some (zr 1), some (zr 2), none, some (zi l3), some (zi l4), none, none, none, none, some (zr 2231), some (zr 2232), some (zr 2233), some (zi l12), some (zi l13), some (zi l14), some (zi l15), some (zi l16), none, none, some (zi 1), none, none, none, none] [] M) : XL q (d + 1) 1163 [some (zr 1), some (zr 2), none, some (zi l3), some (zi l4), none, none, none, none, some (zr 2231), some (zr 2232), some (zr 2233), some (zi l12), some (zi l13), some (zi l14), some (zi l15), some (zi l16), none, none, none, none, none, none, none] [] M := by
  refine XL.up (pc' := 1164) (fun _ _ k => x_iconst dXL_law_1163 (show inR 1 from ⟨by decide, by decide⟩) k) ?_
  refine XL.up (pc' := 1166) (L' := [some (zr 1), some (zr 2), none, some (zi l3), some (zi l4), none, none, none, none, some (zr 2231), some (zr 2232), some (zr 2233), some (zi l12), some (zi l13), some (zi l14), some (zi l15), some (zi l16), none, none, some (zi 1), none, none, none, none]) (fun _ _ k => x_istore dXL_law_1164 (by decide) rfl k) ?_
  exact h
set_option maxHeartbeats 4000000 in
set_option maxRecDepth 20000 in
theorem BL_1166 {q : Nat × (Nat → Int)} {d : Nat} {K M : ZMem} (l3 : Int) (l4 : Int) (l12 : Int) (l13 : Int) (l14 : Int) (l15 : Int) (l16 : Int) (l19 : Int) (hq : ∀ j, inR (q.2 j)) (hq1 : q.1 ≤ 260) (hK : KW K M) (h0 : TopAt K 2) (h9 : mS K 2231 = (1, 400)) (h10 : mS K 2232 = (1, 400)) (h11 : mS K 2233 = (1, 400)) (h : ((l16 ≤ l19 → (XL q (d + 1) 1248 [some (zr 1), some (zr 2), none, some (zi l3), some (zi l4), none, none, none, none, some (zr 2231), some (zr 2232), some (zr 2233), some (zi l12), some (zi l13), some (zi l14), some (zi l15), none, none, none, none, none, none, none, none] [] M)) ∧ (¬ (l16 ≤ l19) → ((inR (l19 - 1)) ∧ Ci d q9_ordered [zr 2, zi l15, zi (l19 - 1)] M (fun x3 M2 => KW K M2 ∧ XL q (d + 1) 1185 [some (zr 1), some (zr 2), none, some (zi l3), some (zi l4), none, none, none, none, some (zr 2231), some (zr 2232), some (zr 2233), some (zi l12), some (zi l13), some (zi l14), some (zi l15), some (zi l16), none, none, some (zi l19), some (zi x3), none, none, none] [] M2))))) : XL q (d + 1) 1166 [some (zr 1), some (zr 2), none, some (zi l3), some (zi l4), none, none, none, none, some (zr 2231), some (zr 2232), some (zr 2233), some (zi l12), some (zi l13), some (zi l14), some (zi l15), some (zi l16), none, none, some (zi l19), none, none, none, none] [] M := by
  refine XL.up (pc' := 1168) (fun _ _ k => x_iload dXL_law_1166 rfl k) ?_
  refine XL.up (pc' := 1170) (fun _ _ k => x_iload dXL_law_1168 rfl k) ?_
  refine XL.br (tgt := 1248) (pc' := 1173) (l16 ≤ l19) (fun _ _ kt kf => x_icmp_ge dXL_law_1170 rfl kt kf) (fun c => ?_) (fun c => ?_)
  · have h := h.1 c
    exact XL.less (L' := [some (zr 1), some (zr 2), none, some (zi l3), some (zi l4), none, none, none, none, some (zr 2231), some (zr 2232), some (zr 2233), some (zi l12), some (zi l13), some (zi l14), some (zi l15), none, none, none, none, none, none, none, none]) (⟨rfl, ⟨rfl, ⟨rfl, ⟨rfl, ⟨rfl, ⟨rfl, ⟨rfl, ⟨rfl, ⟨rfl, ⟨rfl, ⟨rfl, trivial⟩⟩⟩⟩⟩⟩⟩⟩⟩⟩⟩) h
  · have h := h.2 c
    refine XL.up (pc' := 1174) (fun _ _ k => x_aload_n dXL_law_1173 rfl rfl k) ?_
    refine XL.up (pc' := 1176) (fun _ _ k => x_iload dXL_law_1174 rfl k) ?_
    refine XL.up (pc' := 1178) (fun _ _ k => x_iload dXL_law_1176 rfl k) ?_
    refine XL.up (pc' := 1179) (fun _ _ k => x_iconst dXL_law_1178 (show inR 1 from ⟨by decide, by decide⟩) k) ?_
    obtain ⟨g1, h⟩ := h
    refine XL.up (pc' := 1180) (fun _ _ k => x_isub dXL_law_1179 g1 k) ?_
    obtain ⟨x3, M2, hc5, hK4, h⟩ := h
    refine XL.up (pc' := 1183) (st' := [zi x3]) (fun _ _ k => x_callVK (ci := 9) (as := [zi l15, zi (l19 - 1)]) (st := []) hK k9_ordered lmL_51 dXL_law_1180 rfl (by decide) (zs8 rfl) h0.1 ⟨_, _, rfl⟩ hc5 k) ?_
    refine XL.up (pc' := 1185) (L' := [some (zr 1), some (zr 2), none, some (zi l3), some (zi l4), none, none, none, none, some (zr 2231), some (zr 2232), some (zr 2233), some (zi l12), some (zi l13), some (zi l14), some (zi l15), some (zi l16), none, none, some (zi l19), some (zi x3), none, none, none]) (fun _ _ k => x_istore dXL_law_1183 (by decide) rfl k) ?_
    exact h
set_option maxHeartbeats 4000000 in
set_option maxRecDepth 20000 in
theorem BL_1185 {q : Nat × (Nat → Int)} {d : Nat} {K M : ZMem} (l3 : Int) (l4 : Int) (l12 : Int) (l13 : Int) (l14 : Int) (l15 : Int) (l16 : Int) (l19 : Int) (l20 : Int) (hq : ∀ j, inR (q.2 j)) (hq1 : q.1 ≤ 260) (hK : KW K M) (h0 : TopAt K 2) (h9 : mS K 2231 = (1, 400)) (h10 : mS K 2232 = (1, 400)) (h11 : mS K 2233 = (1, 400)) (h : Ci d q9_ordered [zr 2, zi l15, zi l19] M (fun x2 M1 => KW K M1 ∧ XL q (d + 1) 1195 [some (zr 1), some (zr 2), none, some (zi l3), some (zi l4), none, none, none, none, some (zr 2231), some (zr 2232), some (zr 2233), some (zi l12), some (zi l13), some (zi l14), some (zi l15), some (zi l16), none, none, some (zi l19), some (zi l20), some (zi x2), none, none] [] M1)) : XL q (d + 1) 1185 [some (zr 1), some (zr 2), none, some (zi l3), some (zi l4), none, none, none, none, some (zr 2231), some (zr 2232), some (zr 2233), some (zi l12), some (zi l13), some (zi l14), some (zi l15), some (zi l16), none, none, some (zi l19), some (zi l20), none, none, none] [] M := by
  refine XL.up (pc' := 1186) (fun _ _ k => x_aload_n dXL_law_1185 rfl rfl k) ?_
  refine XL.up (pc' := 1188) (fun _ _ k => x_iload dXL_law_1186 rfl k) ?_
  refine XL.up (pc' := 1190) (fun _ _ k => x_iload dXL_law_1188 rfl k) ?_
  obtain ⟨x2, M1, hc4, hK3, h⟩ := h
  refine XL.up (pc' := 1193) (st' := [zi x2]) (fun _ _ k => x_callVK (ci := 9) (as := [zi l15, zi l19]) (st := []) hK k9_ordered lmL_51 dXL_law_1190 rfl (by decide) (zs8 rfl) h0.1 ⟨_, _, rfl⟩ hc4 k) ?_
  refine XL.up (pc' := 1195) (L' := [some (zr 1), some (zr 2), none, some (zi l3), some (zi l4), none, none, none, none, some (zr 2231), some (zr 2232), some (zr 2233), some (zi l12), some (zi l13), some (zi l14), some (zi l15), some (zi l16), none, none, some (zi l19), some (zi l20), some (zi x2), none, none]) (fun _ _ k => x_istore dXL_law_1193 (by decide) rfl k) ?_
  exact h
set_option maxHeartbeats 4000000 in
set_option maxRecDepth 20000 in
theorem BL_1195 {q : Nat × (Nat → Int)} {d : Nat} {K M : ZMem} (l3 : Int) (l4 : Int) (l12 : Int) (l13 : Int) (l14 : Int) (l15 : Int) (l16 : Int) (l19 : Int) (l20 : Int) (l21 : Int) (hq : ∀ j, inR (q.2 j)) (hq1 : q.1 ≤ 260) (hK : KW K M) (h0 : TopAt K 2) (h9 : mS K 2231 = (1, 400)) (h10 : mS K 2232 = (1, 400)) (h11 : mS K 2233 = (1, 400)) (h : Ci d q9_answer [zr 2, zi l15, zi l20, zi 10] M (fun x2 M1 => KW K M1 ∧ XL q (d + 1) 1207 [some (zr 1), some (zr 2), none, some (zi l3), some (zi l4), none, none, none, none, some (zr 2231), some (zr 2232), some (zr 2233), some (zi l12), some (zi l13), some (zi l14), some (zi l15), some (zi l16), none, none, some (zi l19), some (zi l20), some (zi l21), some (zi x2), none] [] M1)) : XL q (d + 1) 1195 [some (zr 1), some (zr 2), none, some (zi l3), some (zi l4), none, none, none, none, some (zr 2231), some (zr 2232), some (zr 2233), some (zi l12), some (zi l13), some (zi l14), some (zi l15), some (zi l16), none, none, some (zi l19), some (zi l20), some (zi l21), none, none] [] M := by
  refine XL.up (pc' := 1196) (fun _ _ k => x_aload_n dXL_law_1195 rfl rfl k) ?_
  refine XL.up (pc' := 1198) (fun _ _ k => x_iload dXL_law_1196 rfl k) ?_
  refine XL.up (pc' := 1200) (fun _ _ k => x_iload dXL_law_1198 rfl k) ?_
  refine XL.up (pc' := 1202) (fun _ _ k => x_bipush dXL_law_1200 (show inR 10 from ⟨by decide, by decide⟩) (by decide) k) ?_
  obtain ⟨x2, M1, hc4, hK3, h⟩ := h
  refine XL.up (pc' := 1205) (st' := [zi x2]) (fun _ _ k => x_callVK (ci := 9) (as := [zi l15, zi l20, zi 10]) (st := []) hK k9_answer lmL_48 dXL_law_1202 rfl (by decide) (zs8 rfl) h0.1 ⟨_, _, rfl⟩ hc4 k) ?_
  refine XL.up (pc' := 1207) (L' := [some (zr 1), some (zr 2), none, some (zi l3), some (zi l4), none, none, none, none, some (zr 2231), some (zr 2232), some (zr 2233), some (zi l12), some (zi l13), some (zi l14), some (zi l15), some (zi l16), none, none, some (zi l19), some (zi l20), some (zi l21), some (zi x2), none]) (fun _ _ k => x_istore dXL_law_1205 (by decide) rfl k) ?_
  exact h
set_option maxHeartbeats 4000000 in
set_option maxRecDepth 20000 in
theorem BL_1207 {q : Nat × (Nat → Int)} {d : Nat} {K M : ZMem} (l3 : Int) (l4 : Int) (l12 : Int) (l13 : Int) (l14 : Int) (l15 : Int) (l16 : Int) (l19 : Int) (l20 : Int) (l21 : Int) (l22 : Int) (hq : ∀ j, inR (q.2 j)) (hq1 : q.1 ≤ 260) (hK : KW K M) (h0 : TopAt K 2) (h9 : mS K 2231 = (1, 400)) (h10 : mS K 2232 = (1, 400)) (h11 : mS K 2233 = (1, 400)) (h : Ci d q9_answer [zr 2, zi l15, zi l21, zi 10] M (fun x2 M1 => KW K M1 ∧ XL q (d + 1) 1219 [some (zr 1), some (zr 2), none, some (zi l3), some (zi l4), none, none, none, none, some (zr 2231), some (zr 2232), some (zr 2233), some (zi l12), some (zi l13), some (zi l14), some (zi l15), some (zi l16), none, none, some (zi l19), some (zi l20), some (zi l21), some (zi l22), some (zi x2)] [] M1)) : XL q (d + 1) 1207 [some (zr 1), some (zr 2), none, some (zi l3), some (zi l4), none, none, none, none, some (zr 2231), some (zr 2232), some (zr 2233), some (zi l12), some (zi l13), some (zi l14), some (zi l15), some (zi l16), none, none, some (zi l19), some (zi l20), some (zi l21), some (zi l22), none] [] M := by
  refine XL.up (pc' := 1208) (fun _ _ k => x_aload_n dXL_law_1207 rfl rfl k) ?_
  refine XL.up (pc' := 1210) (fun _ _ k => x_iload dXL_law_1208 rfl k) ?_
  refine XL.up (pc' := 1212) (fun _ _ k => x_iload dXL_law_1210 rfl k) ?_
  refine XL.up (pc' := 1214) (fun _ _ k => x_bipush dXL_law_1212 (show inR 10 from ⟨by decide, by decide⟩) (by decide) k) ?_
  obtain ⟨x2, M1, hc4, hK3, h⟩ := h
  refine XL.up (pc' := 1217) (st' := [zi x2]) (fun _ _ k => x_callVK (ci := 9) (as := [zi l15, zi l21, zi 10]) (st := []) hK k9_answer lmL_48 dXL_law_1214 rfl (by decide) (zs8 rfl) h0.1 ⟨_, _, rfl⟩ hc4 k) ?_
  refine XL.up (pc' := 1219) (L' := [some (zr 1), some (zr 2), none, some (zi l3), some (zi l4), none, none, none, none, some (zr 2231), some (zr 2232), some (zr 2233), some (zi l12), some (zi l13), some (zi l14), some (zi l15), some (zi l16), none, none, some (zi l19), some (zi l20), some (zi l21), some (zi l22), some (zi x2)]) (fun _ _ k => x_istore dXL_law_1217 (by decide) rfl k) ?_
  exact h
set_option maxHeartbeats 4000000 in
set_option maxRecDepth 20000 in
theorem BL_1219 {q : Nat × (Nat → Int)} {d : Nat} {K M : ZMem} (l3 : Int) (l4 : Int) (l12 : Int) (l13 : Int) (l14 : Int) (l15 : Int) (l16 : Int) (l19 : Int) (l20 : Int) (l21 : Int) (l22 : Int) (l23 : Int) (hq : ∀ j, inR (q.2 j)) (hq1 : q.1 ≤ 260) (hK : KW K M) (h0 : TopAt K 2) (h9 : mS K 2231 = (1, 400)) (h10 : mS K 2232 = (1, 400)) (h11 : mS K 2233 = (1, 400)) (h : ((l23 < l22 → (False)) ∧ (¬ (l23 < l22) → ((l22 ≠ l23 → (XL q (d + 1) 1242 [some (zr 1), some (zr 2), none, some (zi l3), some (zi l4), none, none, none, none, some (zr 2231), some (zr 2232), some (zr 2233), some (zi l12), some (zi l13), some (zi l14), some (zi l15), some (zi l16), none, none, some (zi l19), none, none, none, none] [] M)) ∧ (¬ (l22 ≠ l23) → ((l20 < l21 → (XL q (d + 1) 1242 [some (zr 1), some (zr 2), none, some (zi l3), some (zi l4), none, none, none, none, some (zr 2231), some (zr 2232), some (zr 2233), some (zi l12), some (zi l13), some (zi l14), some (zi l15), some (zi l16), none, none, some (zi l19), none, none, none, none] [] M)) ∧ (¬ (l20 < l21) → (False)))))))) : XL q (d + 1) 1219 [some (zr 1), some (zr 2), none, some (zi l3), some (zi l4), none, none, none, none, some (zr 2231), some (zr 2232), some (zr 2233), some (zi l12), some (zi l13), some (zi l14), some (zi l15), some (zi l16), none, none, some (zi l19), some (zi l20), some (zi l21), some (zi l22), some (zi l23)] [] M := by
  refine XL.up (pc' := 1221) (fun _ _ k => x_iload dXL_law_1219 rfl k) ?_
  refine XL.up (pc' := 1223) (fun _ _ k => x_iload dXL_law_1221 rfl k) ?_
  refine XL.br (tgt := 1240) (pc' := 1226) (l23 < l22) (fun _ _ kt kf => x_icmp_gt dXL_law_1223 rfl kt kf) (fun c => ?_) (fun c => ?_)
  · have h := h.1 c
    refine XL.up (pc' := 1241) (fun _ _ k => x_iconst dXL_law_1240 (show inR 0 from ⟨by decide, by decide⟩) k) ?_
    exact h.elim
  · have h := h.2 c
    refine XL.up (pc' := 1228) (fun _ _ k => x_iload dXL_law_1226 rfl k) ?_
    refine XL.up (pc' := 1230) (fun _ _ k => x_iload dXL_law_1228 rfl k) ?_
    refine XL.br (tgt := 1242) (pc' := 1233) (l22 ≠ l23) (fun _ _ kt kf => x_icmp_ne dXL_law_1230 rfl kt kf) (fun c => ?_) (fun c => ?_)
    · have h := h.1 c
      exact XL.less (L' := [some (zr 1), some (zr 2), none, some (zi l3), some (zi l4), none, none, none, none, some (zr 2231), some (zr 2232), some (zr 2233), some (zi l12), some (zi l13), some (zi l14), some (zi l15), some (zi l16), none, none, some (zi l19), none, none, none, none]) (⟨rfl, ⟨rfl, ⟨rfl, ⟨rfl, ⟨rfl, ⟨rfl, ⟨rfl, ⟨rfl, ⟨rfl, ⟨rfl, ⟨rfl, ⟨rfl, ⟨rfl, trivial⟩⟩⟩⟩⟩⟩⟩⟩⟩⟩⟩⟩⟩) h
    · have h := h.2 c
      refine XL.up (pc' := 1235) (fun _ _ k => x_iload dXL_law_1233 rfl k) ?_
      refine XL.up (pc' := 1237) (fun _ _ k => x_iload dXL_law_1235 rfl k) ?_
      refine XL.br (tgt := 1242) (pc' := 1240) (l20 < l21) (fun _ _ kt kf => x_icmp_lt dXL_law_1237 rfl kt kf) (fun c => ?_) (fun c => ?_)
      · have h := h.1 c
        exact XL.less (L' := [some (zr 1), some (zr 2), none, some (zi l3), some (zi l4), none, none, none, none, some (zr 2231), some (zr 2232), some (zr 2233), some (zi l12), some (zi l13), some (zi l14), some (zi l15), some (zi l16), none, none, some (zi l19), none, none, none, none]) (⟨rfl, ⟨rfl, ⟨rfl, ⟨rfl, ⟨rfl, ⟨rfl, ⟨rfl, ⟨rfl, ⟨rfl, ⟨rfl, ⟨rfl, ⟨rfl, ⟨rfl, trivial⟩⟩⟩⟩⟩⟩⟩⟩⟩⟩⟩⟩⟩) h
      · have h := h.2 c
        refine XL.up (pc' := 1241) (fun _ _ k => x_iconst dXL_law_1240 (show inR 0 from ⟨by decide, by decide⟩) k) ?_
        exact h.elim
set_option maxHeartbeats 4000000 in
set_option maxRecDepth 20000 in
theorem BL_1242 {q : Nat × (Nat → Int)} {d : Nat} {K M : ZMem} (l3 : Int) (l4 : Int) (l12 : Int) (l13 : Int) (l14 : Int) (l15 : Int) (l16 : Int) (l19 : Int) (hq : ∀ j, inR (q.2 j)) (hq1 : q.1 ≤ 260) (hK : KW K M) (h0 : TopAt K 2) (h9 : mS K 2231 = (1, 400)) (h10 : mS K 2232 = (1, 400)) (h11 : mS K 2233 = (1, 400)) (h : (inR (l19 + 1)) ∧ XL q (d + 1) 1166 [some (zr 1), some (zr 2), none, some (zi l3), some (zi l4), none, none, none, none, some (zr 2231), some (zr 2232), some (zr 2233), some (zi l12), some (zi l13), some (zi l14), some (zi l15), some (zi l16), none, none, some (zi (l19 + 1)), none, none, none, none] [] M) : XL q (d + 1) 1242 [some (zr 1), some (zr 2), none, some (zi l3), some (zi l4), none, none, none, none, some (zr 2231), some (zr 2232), some (zr 2233), some (zi l12), some (zi l13), some (zi l14), some (zi l15), some (zi l16), none, none, some (zi l19), none, none, none, none] [] M := by
  obtain ⟨g1, h⟩ := h
  refine XL.up (pc' := 1245) (L' := [some (zr 1), some (zr 2), none, some (zi l3), some (zi l4), none, none, none, none, some (zr 2231), some (zr 2232), some (zr 2233), some (zi l12), some (zi l13), some (zi l14), some (zi l15), some (zi l16), none, none, some (zi (l19 + 1)), none, none, none, none]) (fun _ _ k => x_iinc dXL_law_1242 rfl g1 (by decide) rfl k) ?_
  refine XL.up (pc' := 1166) (fun _ _ k => x_goto dXL_law_1245 rfl k) ?_
  exact h
set_option maxHeartbeats 4000000 in
set_option maxRecDepth 20000 in
theorem BL_1248 {q : Nat × (Nat → Int)} {d : Nat} {K M : ZMem} (l3 : Int) (l4 : Int) (l12 : Int) (l13 : Int) (l14 : Int) (l15 : Int) (hq : ∀ j, inR (q.2 j)) (hq1 : q.1 ≤ 260) (hK : KW K M) (h0 : TopAt K 2) (h9 : mS K 2231 = (1, 400)) (h10 : mS K 2232 = (1, 400)) (h11 : mS K 2233 = (1, 400)) (h : ((l14 ≠ 5 → ((5 ≤ l14 → (XL q (d + 1) 1297 [some (zr 1), some (zr 2), none, some (zi l3), some (zi l4), none, none, none, none, some (zr 2231), some (zr 2232), some (zr 2233), some (zi l12), some (zi l13), some (zi l14), some (zi l15), none, none, none, none, none, none, none, none] [] M)) ∧ (¬ (5 ≤ l14) → (Ci d q9_of [zr 2, zi l15, zi 9] M (fun x2 M1 => KW K M1 ∧ ((x2 = (-2002) → (XL q (d + 1) 1297 [some (zr 1), some (zr 2), none, some (zi l3), some (zi l4), none, none, none, none, some (zr 2231), some (zr 2232), some (zr 2233), some (zi l12), some (zi l13), some (zi l14), some (zi l15), none, none, none, none, none, none, none, none] [] M1)) ∧ (¬ (x2 = (-2002)) → (False)))))))) ∧ (¬ (l14 ≠ 5) → (Ci d q9_of [zr 2, zi l15, zi 9] M (fun x6 M5 => KW K M5 ∧ ((l12 ≤ 0 → ((x6 < 0 → (False)) ∧ (¬ (x6 < 0) → ((5 ≤ l14 → (XL q (d + 1) 1297 [some (zr 1), some (zr 2), none, some (zi l3), some (zi l4), none, none, none, none, some (zr 2231), some (zr 2232), some (zr 2233), some (zi l12), some (zi l13), some (zi l14), some (zi l15), none, none, none, none, none, none, none, none] [] M5)) ∧ (¬ (5 ≤ l14) → (Ci d q9_of [zr 2, zi l15, zi 9] M5 (fun x10 M9 => KW K M9 ∧ ((x10 = (-2002) → (XL q (d + 1) 1297 [some (zr 1), some (zr 2), none, some (zi l3), some (zi l4), none, none, none, none, some (zr 2231), some (zr 2232), some (zr 2233), some (zi l12), some (zi l13), some (zi l14), some (zi l15), none, none, none, none, none, none, none, none] [] M9)) ∧ (¬ (x10 = (-2002)) → (False)))))))))) ∧ (¬ (l12 ≤ 0) → ((x6 < 3 → (False)) ∧ (¬ (x6 < 3) → ((5 ≤ l14 → (XL q (d + 1) 1297 [some (zr 1), some (zr 2), none, some (zi l3), some (zi l4), none, none, none, none, some (zr 2231), some (zr 2232), some (zr 2233), some (zi l12), some (zi l13), some (zi l14), some (zi l15), none, none, none, none, none, none, none, none] [] M5)) ∧ (¬ (5 ≤ l14) → (Ci d q9_of [zr 2, zi l15, zi 9] M5 (fun x14 M13 => KW K M13 ∧ ((x14 = (-2002) → (XL q (d + 1) 1297 [some (zr 1), some (zr 2), none, some (zi l3), some (zi l4), none, none, none, none, some (zr 2231), some (zr 2232), some (zr 2233), some (zi l12), some (zi l13), some (zi l14), some (zi l15), none, none, none, none, none, none, none, none] [] M13)) ∧ (¬ (x14 = (-2002)) → (False)))))))))))))))) : XL q (d + 1) 1248 [some (zr 1), some (zr 2), none, some (zi l3), some (zi l4), none, none, none, none, some (zr 2231), some (zr 2232), some (zr 2233), some (zi l12), some (zi l13), some (zi l14), some (zi l15), none, none, none, none, none, none, none, none] [] M := by
  refine XL.up (pc' := 1250) (fun _ _ k => x_iload dXL_law_1248 rfl k) ?_
  refine XL.up (pc' := 1251) (fun _ _ k => x_iconst dXL_law_1250 (show inR 5 from ⟨by decide, by decide⟩) k) ?_
  refine XL.br (tgt := 1275) (pc' := 1254) (l14 ≠ 5) (fun _ _ kt kf => x_icmp_ne dXL_law_1251 rfl kt kf) (fun c => ?_) (fun c => ?_)
  · have h := h.1 c
    refine XL.up (pc' := 1277) (fun _ _ k => x_iload dXL_law_1275 rfl k) ?_
    refine XL.up (pc' := 1278) (fun _ _ k => x_iconst dXL_law_1277 (show inR 5 from ⟨by decide, by decide⟩) k) ?_
    refine XL.br (tgt := 1297) (pc' := 1281) (5 ≤ l14) (fun _ _ kt kf => x_icmp_ge dXL_law_1278 rfl kt kf) (fun c => ?_) (fun c => ?_)
    · have h := h.1 c
      exact h
    · have h := h.2 c
      refine XL.up (pc' := 1282) (fun _ _ k => x_aload_n dXL_law_1281 rfl rfl k) ?_
      refine XL.up (pc' := 1284) (fun _ _ k => x_iload dXL_law_1282 rfl k) ?_
      refine XL.up (pc' := 1286) (fun _ _ k => x_bipush dXL_law_1284 (show inR 9 from ⟨by decide, by decide⟩) (by decide) k) ?_
      obtain ⟨x2, M1, hc4, hK3, h⟩ := h
      refine XL.up (pc' := 1289) (st' := [zi x2]) (fun _ _ k => x_callVK (ci := 9) (as := [zi l15, zi 9]) (st := []) hK k9_of lmL_35 dXL_law_1286 rfl (by decide) (zs8 rfl) h0.1 ⟨_, _, rfl⟩ hc4 k) ?_
      refine XL.up (pc' := 1292) (fun _ _ k => x_sipush dXL_law_1289 (show inR (-2002) from ⟨by decide, by decide⟩) (by decide) k) ?_
      refine XL.br (tgt := 1297) (pc' := 1295) (x2 = (-2002)) (fun _ _ kt kf => x_icmp_eq dXL_law_1292 rfl kt kf) (fun c => ?_) (fun c => ?_)
      · have h := h.1 c
        exact h
      · have h := h.2 c
        refine XL.up (pc' := 1296) (fun _ _ k => x_iconst dXL_law_1295 (show inR 0 from ⟨by decide, by decide⟩) k) ?_
        exact h.elim
  · have h := h.2 c
    refine XL.up (pc' := 1255) (fun _ _ k => x_aload_n dXL_law_1254 rfl rfl k) ?_
    refine XL.up (pc' := 1257) (fun _ _ k => x_iload dXL_law_1255 rfl k) ?_
    refine XL.up (pc' := 1259) (fun _ _ k => x_bipush dXL_law_1257 (show inR 9 from ⟨by decide, by decide⟩) (by decide) k) ?_
    obtain ⟨x6, M5, hc8, hK7, h⟩ := h
    refine XL.up (pc' := 1262) (st' := [zi x6]) (fun _ _ k => x_callVK (ci := 9) (as := [zi l15, zi 9]) (st := []) hK k9_of lmL_35 dXL_law_1259 rfl (by decide) (zs8 rfl) h0.1 ⟨_, _, rfl⟩ hc8 k) ?_
    refine XL.up (pc' := 1264) (fun _ _ k => x_iload dXL_law_1262 rfl k) ?_
    refine XL.br (tgt := 1271) (pc' := 1267) (l12 ≤ 0) (fun _ _ kt kf => x_if_le dXL_law_1264 rfl kt kf) (fun c => ?_) (fun c => ?_)
    · have h := h.1 c
      refine XL.up (pc' := 1272) (fun _ _ k => x_iconst dXL_law_1271 (show inR 0 from ⟨by decide, by decide⟩) k) ?_
      refine XL.br (tgt := 1295) (pc' := 1275) (x6 < 0) (fun _ _ kt kf => x_icmp_lt dXL_law_1272 rfl kt kf) (fun c => ?_) (fun c => ?_)
      · have h := h.1 c
        refine XL.up (pc' := 1296) (fun _ _ k => x_iconst dXL_law_1295 (show inR 0 from ⟨by decide, by decide⟩) k) ?_
        exact h.elim
      · have h := h.2 c
        refine XL.up (pc' := 1277) (fun _ _ k => x_iload dXL_law_1275 rfl k) ?_
        refine XL.up (pc' := 1278) (fun _ _ k => x_iconst dXL_law_1277 (show inR 5 from ⟨by decide, by decide⟩) k) ?_
        refine XL.br (tgt := 1297) (pc' := 1281) (5 ≤ l14) (fun _ _ kt kf => x_icmp_ge dXL_law_1278 rfl kt kf) (fun c => ?_) (fun c => ?_)
        · have h := h.1 c
          exact h
        · have h := h.2 c
          refine XL.up (pc' := 1282) (fun _ _ k => x_aload_n dXL_law_1281 rfl rfl k) ?_
          refine XL.up (pc' := 1284) (fun _ _ k => x_iload dXL_law_1282 rfl k) ?_
          refine XL.up (pc' := 1286) (fun _ _ k => x_bipush dXL_law_1284 (show inR 9 from ⟨by decide, by decide⟩) (by decide) k) ?_
          obtain ⟨x10, M9, hc12, hK11, h⟩ := h
          refine XL.up (pc' := 1289) (st' := [zi x10]) (fun _ _ k => x_callVK (ci := 9) (as := [zi l15, zi 9]) (st := []) hK7 k9_of lmL_35 dXL_law_1286 rfl (by decide) (zs8 rfl) h0.1 ⟨_, _, rfl⟩ hc12 k) ?_
          refine XL.up (pc' := 1292) (fun _ _ k => x_sipush dXL_law_1289 (show inR (-2002) from ⟨by decide, by decide⟩) (by decide) k) ?_
          refine XL.br (tgt := 1297) (pc' := 1295) (x10 = (-2002)) (fun _ _ kt kf => x_icmp_eq dXL_law_1292 rfl kt kf) (fun c => ?_) (fun c => ?_)
          · have h := h.1 c
            exact h
          · have h := h.2 c
            refine XL.up (pc' := 1296) (fun _ _ k => x_iconst dXL_law_1295 (show inR 0 from ⟨by decide, by decide⟩) k) ?_
            exact h.elim
    · have h := h.2 c
      refine XL.up (pc' := 1268) (fun _ _ k => x_iconst dXL_law_1267 (show inR 3 from ⟨by decide, by decide⟩) k) ?_
      refine XL.up (pc' := 1272) (fun _ _ k => x_goto dXL_law_1268 rfl k) ?_
      refine XL.br (tgt := 1295) (pc' := 1275) (x6 < 3) (fun _ _ kt kf => x_icmp_lt dXL_law_1272 rfl kt kf) (fun c => ?_) (fun c => ?_)
      · have h := h.1 c
        refine XL.up (pc' := 1296) (fun _ _ k => x_iconst dXL_law_1295 (show inR 0 from ⟨by decide, by decide⟩) k) ?_
        exact h.elim
      · have h := h.2 c
        refine XL.up (pc' := 1277) (fun _ _ k => x_iload dXL_law_1275 rfl k) ?_
        refine XL.up (pc' := 1278) (fun _ _ k => x_iconst dXL_law_1277 (show inR 5 from ⟨by decide, by decide⟩) k) ?_
        refine XL.br (tgt := 1297) (pc' := 1281) (5 ≤ l14) (fun _ _ kt kf => x_icmp_ge dXL_law_1278 rfl kt kf) (fun c => ?_) (fun c => ?_)
        · have h := h.1 c
          exact h
        · have h := h.2 c
          refine XL.up (pc' := 1282) (fun _ _ k => x_aload_n dXL_law_1281 rfl rfl k) ?_
          refine XL.up (pc' := 1284) (fun _ _ k => x_iload dXL_law_1282 rfl k) ?_
          refine XL.up (pc' := 1286) (fun _ _ k => x_bipush dXL_law_1284 (show inR 9 from ⟨by decide, by decide⟩) (by decide) k) ?_
          obtain ⟨x14, M13, hc16, hK15, h⟩ := h
          refine XL.up (pc' := 1289) (st' := [zi x14]) (fun _ _ k => x_callVK (ci := 9) (as := [zi l15, zi 9]) (st := []) hK7 k9_of lmL_35 dXL_law_1286 rfl (by decide) (zs8 rfl) h0.1 ⟨_, _, rfl⟩ hc16 k) ?_
          refine XL.up (pc' := 1292) (fun _ _ k => x_sipush dXL_law_1289 (show inR (-2002) from ⟨by decide, by decide⟩) (by decide) k) ?_
          refine XL.br (tgt := 1297) (pc' := 1295) (x14 = (-2002)) (fun _ _ kt kf => x_icmp_eq dXL_law_1292 rfl kt kf) (fun c => ?_) (fun c => ?_)
          · have h := h.1 c
            exact h
          · have h := h.2 c
            refine XL.up (pc' := 1296) (fun _ _ k => x_iconst dXL_law_1295 (show inR 0 from ⟨by decide, by decide⟩) k) ?_
            exact h.elim
set_option maxHeartbeats 4000000 in
set_option maxRecDepth 20000 in
theorem BL_1297 {q : Nat × (Nat → Int)} {d : Nat} {K M : ZMem} (l3 : Int) (l4 : Int) (l12 : Int) (l13 : Int) (l14 : Int) (l15 : Int) (hq : ∀ j, inR (q.2 j)) (hq1 : q.1 ≤ 260) (hK : KW K M) (h0 : TopAt K 2) (h9 : mS K 2231 = (1, 400)) (h10 : mS K 2232 = (1, 400)) (h11 : mS K 2233 = (1, 400)) (h : ((5 ≤ l14 → (XL q (d + 1) 1370 [some (zr 1), some (zr 2), none, some (zi l3), some (zi l4), none, none, none, none, some (zr 2231), some (zr 2232), some (zr 2233), some (zi l12), some (zi l13), some (zi l14), none, none, none, none, none, none, none, none, none] [] M)) ∧ (¬ (5 ≤ l14) → (Ci d q9_of [zr 2, zi l15, zi 3] M (fun x2 M1 => KW K M1 ∧ ((x2 ≠ 0 → (False)) ∧ (¬ (x2 ≠ 0) → (Ci d q9_of [zr 2, zi l15, zi 7] M1 (fun x6 M5 => KW K M5 ∧ ((x6 ≠ 0 → (False)) ∧ (¬ (x6 ≠ 0) → (Ci d q9_of [zr 2, zi l15, zi 4] M5 (fun x10 M9 => KW K M9 ∧ Ci d q9_of [zr 2, zi l15, zi 5] M9 (fun x14 M13 => KW K M13 ∧ ((x14 < x10 → (False)) ∧ (¬ (x14 < x10) → ((l13 ≤ 0 → (XL q (d + 1) 1370 [some (zr 1), some (zr 2), none, some (zi l3), some (zi l4), none, none, none, none, some (zr 2231), some (zr 2232), some (zr 2233), some (zi l12), some (zi l13), some (zi l14), none, none, none, none, none, none, none, none, none] [] M13)) ∧ (¬ (l13 ≤ 0) → (Ci d q9_of [zr 2, zi l15, zi 6] M13 (fun x18 M17 => KW K M17 ∧ (inR (l4 - l3)) ∧ (inR ((l4 - l3) + 1)) ∧ (inR (((l4 - l3) + 1) * 4)) ∧ (inR ((((l4 - l3) + 1) * 4) + l13)) ∧ ((x18 = ((((l4 - l3) + 1) * 4) + l13) → (XL q (d + 1) 1370 [some (zr 1), some (zr 2), none, some (zi l3), some (zi l4), none, none, none, none, some (zr 2231), some (zr 2232), some (zr 2233), some (zi l12), some (zi l13), some (zi l14), none, none, none, none, none, none, none, none, none] [] M17)) ∧ (¬ (x18 = ((((l4 - l3) + 1) * 4) + l13)) → (False))))))))))))))))))))))) : XL q (d + 1) 1297 [some (zr 1), some (zr 2), none, some (zi l3), some (zi l4), none, none, none, none, some (zr 2231), some (zr 2232), some (zr 2233), some (zi l12), some (zi l13), some (zi l14), some (zi l15), none, none, none, none, none, none, none, none] [] M := by
  refine XL.up (pc' := 1299) (fun _ _ k => x_iload dXL_law_1297 rfl k) ?_
  refine XL.up (pc' := 1300) (fun _ _ k => x_iconst dXL_law_1299 (show inR 5 from ⟨by decide, by decide⟩) k) ?_
  refine XL.br (tgt := 1370) (pc' := 1303) (5 ≤ l14) (fun _ _ kt kf => x_icmp_ge dXL_law_1300 rfl kt kf) (fun c => ?_) (fun c => ?_)
  · have h := h.1 c
    exact XL.less (L' := [some (zr 1), some (zr 2), none, some (zi l3), some (zi l4), none, none, none, none, some (zr 2231), some (zr 2232), some (zr 2233), some (zi l12), some (zi l13), some (zi l14), none, none, none, none, none, none, none, none, none]) (⟨rfl, ⟨rfl, ⟨rfl, ⟨rfl, ⟨rfl, ⟨rfl, ⟨rfl, ⟨rfl, ⟨rfl, ⟨rfl, trivial⟩⟩⟩⟩⟩⟩⟩⟩⟩⟩) h
  · have h := h.2 c
    refine XL.up (pc' := 1304) (fun _ _ k => x_aload_n dXL_law_1303 rfl rfl k) ?_
    refine XL.up (pc' := 1306) (fun _ _ k => x_iload dXL_law_1304 rfl k) ?_
    refine XL.up (pc' := 1307) (fun _ _ k => x_iconst dXL_law_1306 (show inR 3 from ⟨by decide, by decide⟩) k) ?_
    obtain ⟨x2, M1, hc4, hK3, h⟩ := h
    refine XL.up (pc' := 1310) (st' := [zi x2]) (fun _ _ k => x_callVK (ci := 9) (as := [zi l15, zi 3]) (st := []) hK k9_of lmL_35 dXL_law_1307 rfl (by decide) (zs8 rfl) h0.1 ⟨_, _, rfl⟩ hc4 k) ?_
    refine XL.br (tgt := 1368) (pc' := 1313) (x2 ≠ 0) (fun _ _ kt kf => x_if_ne dXL_law_1310 rfl kt kf) (fun c => ?_) (fun c => ?_)
    · have h := h.1 c
      refine XL.up (pc' := 1369) (fun _ _ k => x_iconst dXL_law_1368 (show inR 0 from ⟨by decide, by decide⟩) k) ?_
      exact h.elim
    · have h := h.2 c
      refine XL.up (pc' := 1314) (fun _ _ k => x_aload_n dXL_law_1313 rfl rfl k) ?_
      refine XL.up (pc' := 1316) (fun _ _ k => x_iload dXL_law_1314 rfl k) ?_
      refine XL.up (pc' := 1318) (fun _ _ k => x_bipush dXL_law_1316 (show inR 7 from ⟨by decide, by decide⟩) (by decide) k) ?_
      obtain ⟨x6, M5, hc8, hK7, h⟩ := h
      refine XL.up (pc' := 1321) (st' := [zi x6]) (fun _ _ k => x_callVK (ci := 9) (as := [zi l15, zi 7]) (st := []) hK3 k9_of lmL_35 dXL_law_1318 rfl (by decide) (zs8 rfl) h0.1 ⟨_, _, rfl⟩ hc8 k) ?_
      refine XL.br (tgt := 1368) (pc' := 1324) (x6 ≠ 0) (fun _ _ kt kf => x_if_ne dXL_law_1321 rfl kt kf) (fun c => ?_) (fun c => ?_)
      · have h := h.1 c
        refine XL.up (pc' := 1369) (fun _ _ k => x_iconst dXL_law_1368 (show inR 0 from ⟨by decide, by decide⟩) k) ?_
        exact h.elim
      · have h := h.2 c
        refine XL.up (pc' := 1325) (fun _ _ k => x_aload_n dXL_law_1324 rfl rfl k) ?_
        refine XL.up (pc' := 1327) (fun _ _ k => x_iload dXL_law_1325 rfl k) ?_
        refine XL.up (pc' := 1328) (fun _ _ k => x_iconst dXL_law_1327 (show inR 4 from ⟨by decide, by decide⟩) k) ?_
        obtain ⟨x10, M9, hc12, hK11, h⟩ := h
        refine XL.up (pc' := 1331) (st' := [zi x10]) (fun _ _ k => x_callVK (ci := 9) (as := [zi l15, zi 4]) (st := []) hK7 k9_of lmL_35 dXL_law_1328 rfl (by decide) (zs8 rfl) h0.1 ⟨_, _, rfl⟩ hc12 k) ?_
        refine XL.up (pc' := 1332) (fun _ _ k => x_aload_n dXL_law_1331 rfl rfl k) ?_
        refine XL.up (pc' := 1334) (fun _ _ k => x_iload dXL_law_1332 rfl k) ?_
        refine XL.up (pc' := 1335) (fun _ _ k => x_iconst dXL_law_1334 (show inR 5 from ⟨by decide, by decide⟩) k) ?_
        obtain ⟨x14, M13, hc16, hK15, h⟩ := h
        refine XL.up (pc' := 1338) (st' := [zi x14, zi x10]) (fun _ _ k => x_callVK (ci := 9) (as := [zi l15, zi 5]) (st := [zi x10]) hK11 k9_of lmL_35 dXL_law_1335 rfl (by decide) (zs8 rfl) h0.1 ⟨_, _, rfl⟩ hc16 k) ?_
        refine XL.br (tgt := 1368) (pc' := 1341) (x14 < x10) (fun _ _ kt kf => x_icmp_gt dXL_law_1338 rfl kt kf) (fun c => ?_) (fun c => ?_)
        · have h := h.1 c
          refine XL.up (pc' := 1369) (fun _ _ k => x_iconst dXL_law_1368 (show inR 0 from ⟨by decide, by decide⟩) k) ?_
          exact h.elim
        · have h := h.2 c
          refine XL.up (pc' := 1343) (fun _ _ k => x_iload dXL_law_1341 rfl k) ?_
          refine XL.br (tgt := 1370) (pc' := 1346) (l13 ≤ 0) (fun _ _ kt kf => x_if_le dXL_law_1343 rfl kt kf) (fun c => ?_) (fun c => ?_)
          · have h := h.1 c
            exact XL.less (L' := [some (zr 1), some (zr 2), none, some (zi l3), some (zi l4), none, none, none, none, some (zr 2231), some (zr 2232), some (zr 2233), some (zi l12), some (zi l13), some (zi l14), none, none, none, none, none, none, none, none, none]) (⟨rfl, ⟨rfl, ⟨rfl, ⟨rfl, ⟨rfl, ⟨rfl, ⟨rfl, ⟨rfl, ⟨rfl, ⟨rfl, trivial⟩⟩⟩⟩⟩⟩⟩⟩⟩⟩) h
          · have h := h.2 c
            refine XL.up (pc' := 1347) (fun _ _ k => x_aload_n dXL_law_1346 rfl rfl k) ?_
            refine XL.up (pc' := 1349) (fun _ _ k => x_iload dXL_law_1347 rfl k) ?_
            refine XL.up (pc' := 1351) (fun _ _ k => x_bipush dXL_law_1349 (show inR 6 from ⟨by decide, by decide⟩) (by decide) k) ?_
            obtain ⟨x18, M17, hc20, hK19, h⟩ := h
            refine XL.up (pc' := 1354) (st' := [zi x18]) (fun _ _ k => x_callVK (ci := 9) (as := [zi l15, zi 6]) (st := []) hK15 k9_of lmL_35 dXL_law_1351 rfl (by decide) (zs8 rfl) h0.1 ⟨_, _, rfl⟩ hc20 k) ?_
            refine XL.up (pc' := 1356) (fun _ _ k => x_iload dXL_law_1354 rfl k) ?_
            refine XL.up (pc' := 1357) (fun _ _ k => x_iload_n dXL_law_1356 rfl rfl k) ?_
            obtain ⟨g21, h⟩ := h
            refine XL.up (pc' := 1358) (fun _ _ k => x_isub dXL_law_1357 g21 k) ?_
            refine XL.up (pc' := 1359) (fun _ _ k => x_iconst dXL_law_1358 (show inR 1 from ⟨by decide, by decide⟩) k) ?_
            obtain ⟨g22, h⟩ := h
            refine XL.up (pc' := 1360) (fun _ _ k => x_iadd dXL_law_1359 g22 k) ?_
            refine XL.up (pc' := 1361) (fun _ _ k => x_iconst dXL_law_1360 (show inR 4 from ⟨by decide, by decide⟩) k) ?_
            obtain ⟨g23, h⟩ := h
            refine XL.up (pc' := 1362) (fun _ _ k => x_imul dXL_law_1361 g23 k) ?_
            refine XL.up (pc' := 1364) (fun _ _ k => x_iload dXL_law_1362 rfl k) ?_
            obtain ⟨g24, h⟩ := h
            refine XL.up (pc' := 1365) (fun _ _ k => x_iadd dXL_law_1364 g24 k) ?_
            refine XL.br (tgt := 1370) (pc' := 1368) (x18 = ((((l4 - l3) + 1) * 4) + l13)) (fun _ _ kt kf => x_icmp_eq dXL_law_1365 rfl kt kf) (fun c => ?_) (fun c => ?_)
            · have h := h.1 c
              exact XL.less (L' := [some (zr 1), some (zr 2), none, some (zi l3), some (zi l4), none, none, none, none, some (zr 2231), some (zr 2232), some (zr 2233), some (zi l12), some (zi l13), some (zi l14), none, none, none, none, none, none, none, none, none]) (⟨rfl, ⟨rfl, ⟨rfl, ⟨rfl, ⟨rfl, ⟨rfl, ⟨rfl, ⟨rfl, ⟨rfl, ⟨rfl, trivial⟩⟩⟩⟩⟩⟩⟩⟩⟩⟩) h
            · have h := h.2 c
              refine XL.up (pc' := 1369) (fun _ _ k => x_iconst dXL_law_1368 (show inR 0 from ⟨by decide, by decide⟩) k) ?_
              exact h.elim
set_option maxHeartbeats 4000000 in
set_option maxRecDepth 20000 in
theorem BL_1370 {q : Nat × (Nat → Int)} {d : Nat} {K M : ZMem} (l3 : Int) (l4 : Int) (l12 : Int) (l13 : Int) (l14 : Int) (hq : ∀ j, inR (q.2 j)) (hq1 : q.1 ≤ 260) (hK : KW K M) (h0 : TopAt K 2) (h9 : mS K 2231 = (1, 400)) (h10 : mS K 2232 = (1, 400)) (h11 : mS K 2233 = (1, 400)) (h : (inR (l14 + 1)) ∧ XL q (d + 1) 670 [some (zr 1), some (zr 2), none, some (zi l3), some (zi l4), none, none, none, none, some (zr 2231), some (zr 2232), some (zr 2233), some (zi l12), some (zi l13), some (zi (l14 + 1)), none, none, none, none, none, none, none, none, none] [] M) : XL q (d + 1) 1370 [some (zr 1), some (zr 2), none, some (zi l3), some (zi l4), none, none, none, none, some (zr 2231), some (zr 2232), some (zr 2233), some (zi l12), some (zi l13), some (zi l14), none, none, none, none, none, none, none, none, none] [] M := by
  obtain ⟨g1, h⟩ := h
  refine XL.up (pc' := 1373) (L' := [some (zr 1), some (zr 2), none, some (zi l3), some (zi l4), none, none, none, none, some (zr 2231), some (zr 2232), some (zr 2233), some (zi l12), some (zi l13), some (zi (l14 + 1)), none, none, none, none, none, none, none, none, none]) (fun _ _ k => x_iinc dXL_law_1370 rfl g1 (by decide) rfl k) ?_
  refine XL.up (pc' := 670) (fun _ _ k => x_goto dXL_law_1373 rfl k) ?_
  exact h
set_option maxHeartbeats 4000000 in
set_option maxRecDepth 20000 in
theorem BL_1376 {q : Nat × (Nat → Int)} {d : Nat} {K M : ZMem} (l12 : Int) (hq : ∀ j, inR (q.2 j)) (hq1 : q.1 ≤ 260) (hK : KW K M) (h0 : TopAt K 2) (h : Ci d q9_common [zr 2, zi 0, zi 1] M (fun x2 M1 => KW K M1 ∧ ((x2 ≠ l12 → (False)) ∧ (¬ (x2 ≠ l12) → (Ci d q9_common [zr 2, zi 2, zi 3] M1 (fun x6 M5 => KW K M5 ∧ ((x6 ≠ l12 → (False)) ∧ (¬ (x6 ≠ l12) → (Ci d q9_unlike [zr 2, zi 0] M5 (fun x10 M9 => KW K M9 ∧ ((l12 < x10 → (False)) ∧ (¬ (l12 < x10) → (Ci d q9_unlike [zr 2, zi 0] M9 (fun x14 M13 => KW K M13 ∧ Ci d q9_unlike [zr 2, zi 3] M13 (fun x18 M17 => KW K M17 ∧ ((x14 ≠ x18 → (False)) ∧ (¬ (x14 ≠ x18) → (mz M17 ≤ 10000 ∧ mw M17 ≤ 1000000)))))))))))))))))) : XL q (d + 1) 1376 [none, some (zr 2), none, none, none, none, none, none, none, none, none, none, some (zi l12), none, none, none, none, none, none, none, none, none, none, none] [] M := by
  refine XL.up (pc' := 1377) (fun _ _ k => x_aload_n dXL_law_1376 rfl rfl k) ?_
  refine XL.up (pc' := 1378) (fun _ _ k => x_iconst dXL_law_1377 (show inR 0 from ⟨by decide, by decide⟩) k) ?_
  refine XL.up (pc' := 1379) (fun _ _ k => x_iconst dXL_law_1378 (show inR 1 from ⟨by decide, by decide⟩) k) ?_
  obtain ⟨x2, M1, hc4, hK3, h⟩ := h
  refine XL.up (pc' := 1382) (st' := [zi x2]) (fun _ _ k => x_callVK (ci := 9) (as := [zi 0, zi 1]) (st := []) hK k9_common lmL_54 dXL_law_1379 rfl (by decide) (zs8 rfl) h0.1 ⟨_, _, rfl⟩ hc4 k) ?_
  refine XL.up (pc' := 1384) (fun _ _ k => x_iload dXL_law_1382 rfl k) ?_
  refine XL.br (tgt := 1425) (pc' := 1387) (x2 ≠ l12) (fun _ _ kt kf => x_icmp_ne dXL_law_1384 rfl kt kf) (fun c => ?_) (fun c => ?_)
  · have h := h.1 c
    refine XL.up (pc' := 1426) (fun _ _ k => x_iconst dXL_law_1425 (show inR 0 from ⟨by decide, by decide⟩) k) ?_
    exact h.elim
  · have h := h.2 c
    refine XL.up (pc' := 1388) (fun _ _ k => x_aload_n dXL_law_1387 rfl rfl k) ?_
    refine XL.up (pc' := 1389) (fun _ _ k => x_iconst dXL_law_1388 (show inR 2 from ⟨by decide, by decide⟩) k) ?_
    refine XL.up (pc' := 1390) (fun _ _ k => x_iconst dXL_law_1389 (show inR 3 from ⟨by decide, by decide⟩) k) ?_
    obtain ⟨x6, M5, hc8, hK7, h⟩ := h
    refine XL.up (pc' := 1393) (st' := [zi x6]) (fun _ _ k => x_callVK (ci := 9) (as := [zi 2, zi 3]) (st := []) hK3 k9_common lmL_54 dXL_law_1390 rfl (by decide) (zs8 rfl) h0.1 ⟨_, _, rfl⟩ hc8 k) ?_
    refine XL.up (pc' := 1395) (fun _ _ k => x_iload dXL_law_1393 rfl k) ?_
    refine XL.br (tgt := 1425) (pc' := 1398) (x6 ≠ l12) (fun _ _ kt kf => x_icmp_ne dXL_law_1395 rfl kt kf) (fun c => ?_) (fun c => ?_)
    · have h := h.1 c
      refine XL.up (pc' := 1426) (fun _ _ k => x_iconst dXL_law_1425 (show inR 0 from ⟨by decide, by decide⟩) k) ?_
      exact h.elim
    · have h := h.2 c
      refine XL.up (pc' := 1399) (fun _ _ k => x_aload_n dXL_law_1398 rfl rfl k) ?_
      refine XL.up (pc' := 1400) (fun _ _ k => x_iconst dXL_law_1399 (show inR 0 from ⟨by decide, by decide⟩) k) ?_
      obtain ⟨x10, M9, hc12, hK11, h⟩ := h
      refine XL.up (pc' := 1403) (st' := [zi x10]) (fun _ _ k => x_callVK (ci := 9) (as := [zi 0]) (st := []) hK7 k9_unlike lmL_57 dXL_law_1400 rfl (by decide) (zs8 rfl) h0.1 ⟨_, _, rfl⟩ hc12 k) ?_
      refine XL.up (pc' := 1405) (fun _ _ k => x_iload dXL_law_1403 rfl k) ?_
      refine XL.br (tgt := 1425) (pc' := 1408) (l12 < x10) (fun _ _ kt kf => x_icmp_gt dXL_law_1405 rfl kt kf) (fun c => ?_) (fun c => ?_)
      · have h := h.1 c
        refine XL.up (pc' := 1426) (fun _ _ k => x_iconst dXL_law_1425 (show inR 0 from ⟨by decide, by decide⟩) k) ?_
        exact h.elim
      · have h := h.2 c
        refine XL.up (pc' := 1409) (fun _ _ k => x_aload_n dXL_law_1408 rfl rfl k) ?_
        refine XL.up (pc' := 1410) (fun _ _ k => x_iconst dXL_law_1409 (show inR 0 from ⟨by decide, by decide⟩) k) ?_
        obtain ⟨x14, M13, hc16, hK15, h⟩ := h
        refine XL.up (pc' := 1413) (st' := [zi x14]) (fun _ _ k => x_callVK (ci := 9) (as := [zi 0]) (st := []) hK11 k9_unlike lmL_57 dXL_law_1410 rfl (by decide) (zs8 rfl) h0.1 ⟨_, _, rfl⟩ hc16 k) ?_
        refine XL.up (pc' := 1414) (fun _ _ k => x_aload_n dXL_law_1413 rfl rfl k) ?_
        refine XL.up (pc' := 1415) (fun _ _ k => x_iconst dXL_law_1414 (show inR 3 from ⟨by decide, by decide⟩) k) ?_
        obtain ⟨x18, M17, hc20, hK19, h⟩ := h
        refine XL.up (pc' := 1418) (st' := [zi x18, zi x14]) (fun _ _ k => x_callVK (ci := 9) (as := [zi 3]) (st := [zi x14]) hK15 k9_unlike lmL_57 dXL_law_1415 rfl (by decide) (zs8 rfl) h0.1 ⟨_, _, rfl⟩ hc20 k) ?_
        refine XL.br (tgt := 1425) (pc' := 1421) (x14 ≠ x18) (fun _ _ kt kf => x_icmp_ne dXL_law_1418 rfl kt kf) (fun c => ?_) (fun c => ?_)
        · have h := h.1 c
          refine XL.up (pc' := 1426) (fun _ _ k => x_iconst dXL_law_1425 (show inR 0 from ⟨by decide, by decide⟩) k) ?_
          exact h.elim
        · have h := h.2 c
          refine XL.up (pc' := 1422) (fun _ _ k => x_iconst dXL_law_1421 (show inR 1 from ⟨by decide, by decide⟩) k) ?_
          refine XL.up (pc' := 1426) (fun _ _ k => x_goto dXL_law_1422 rfl k) ?_
          exact XL.ret dXL_law_1426 h
