/-! number: what its bytecode does -/
set_option maxHeartbeats 4000000 in
set_option maxRecDepth 20000 in
theorem BL_number {d : Nat} {K M : ZMem} {Q : Int → ZMem → Prop} (a1 : Nat) (a2 : Int) (hK : KW K M) (h1 : TopAt K a1) (h : ((0 ≤ a2 → ((0 ≤ a2 → ((a2 < 10 → ((0 ≤ a2) ∧ (inR (48 + (a2 % 10))) ∧ Ci d q9_feed [zr a1, zi (48 + (a2 % 10))] M (fun x4 M3 => KW K M3 ∧ ((x4 ≤ 0 → (Q 0 M3)) ∧ (¬ (x4 ≤ 0) → (Q 1 M3)))))) ∧ (¬ (a2 < 10) → ((0 ≤ a2) ∧ (inR (48 + (a2 / 10))) ∧ Ci d q9_feed [zr a1, zi (48 + (a2 / 10))] M (fun x10 M9 => KW K M9 ∧ ((x10 ≤ 0 → (Q 0 M9)) ∧ (¬ (x10 ≤ 0) → ((0 ≤ a2) ∧ (inR (48 + (a2 % 10))) ∧ Ci d q9_feed [zr a1, zi (48 + (a2 % 10))] M9 (fun x16 M15 => KW K M15 ∧ ((x16 ≤ 0 → (Q 0 M15)) ∧ (¬ (x16 ≤ 0) → (Q 1 M15)))))))))))) ∧ (¬ (0 ≤ a2) → (Ci d q9_feed [zr a1, zi 45] M (fun x20 M19 => KW K M19 ∧ ((x20 ≤ 0 → (Q 0 M19)) ∧ (¬ (x20 ≤ 0) → ((a2 < 10 → ((0 ≤ a2) ∧ (inR (48 + (a2 % 10))) ∧ Ci d q9_feed [zr a1, zi (48 + (a2 % 10))] M19 (fun x26 M25 => KW K M25 ∧ ((x26 ≤ 0 → (Q 0 M25)) ∧ (¬ (x26 ≤ 0) → (Q 1 M25)))))) ∧ (¬ (a2 < 10) → ((0 ≤ a2) ∧ (inR (48 + (a2 / 10))) ∧ Ci d q9_feed [zr a1, zi (48 + (a2 / 10))] M19 (fun x32 M31 => KW K M31 ∧ ((x32 ≤ 0 → (Q 0 M31)) ∧ (¬ (x32 ≤ 0) → ((0 ≤ a2) ∧ (inR (48 + (a2 % 10))) ∧ Ci d q9_feed [zr a1, zi (48 + (a2 % 10))] M31 (fun x38 M37 => KW K M37 ∧ ((x38 ≤ 0 → (Q 0 M37)) ∧ (¬ (x38 ≤ 0) → (Q 1 M37)))))))))))))))))) ∧ (¬ (0 ≤ a2) → ((inR (-a2)) ∧ ((0 ≤ a2 → (((-a2) < 10 → ((0 ≤ (-a2)) ∧ (inR (48 + ((-a2) % 10))) ∧ Ci d q9_feed [zr a1, zi (48 + ((-a2) % 10))] M (fun x45 M44 => KW K M44 ∧ ((x45 ≤ 0 → (Q 0 M44)) ∧ (¬ (x45 ≤ 0) → (Q 1 M44)))))) ∧ (¬ ((-a2) < 10) → ((0 ≤ (-a2)) ∧ (inR (48 + ((-a2) / 10))) ∧ Ci d q9_feed [zr a1, zi (48 + ((-a2) / 10))] M (fun x51 M50 => KW K M50 ∧ ((x51 ≤ 0 → (Q 0 M50)) ∧ (¬ (x51 ≤ 0) → ((0 ≤ (-a2)) ∧ (inR (48 + ((-a2) % 10))) ∧ Ci d q9_feed [zr a1, zi (48 + ((-a2) % 10))] M50 (fun x57 M56 => KW K M56 ∧ ((x57 ≤ 0 → (Q 0 M56)) ∧ (¬ (x57 ≤ 0) → (Q 1 M56)))))))))))) ∧ (¬ (0 ≤ a2) → (Ci d q9_feed [zr a1, zi 45] M (fun x61 M60 => KW K M60 ∧ ((x61 ≤ 0 → (Q 0 M60)) ∧ (¬ (x61 ≤ 0) → (((-a2) < 10 → ((0 ≤ (-a2)) ∧ (inR (48 + ((-a2) % 10))) ∧ Ci d q9_feed [zr a1, zi (48 + ((-a2) % 10))] M60 (fun x67 M66 => KW K M66 ∧ ((x67 ≤ 0 → (Q 0 M66)) ∧ (¬ (x67 ≤ 0) → (Q 1 M66)))))) ∧ (¬ ((-a2) < 10) → ((0 ≤ (-a2)) ∧ (inR (48 + ((-a2) / 10))) ∧ Ci d q9_feed [zr a1, zi (48 + ((-a2) / 10))] M60 (fun x73 M72 => KW K M72 ∧ ((x73 ≤ 0 → (Q 0 M72)) ∧ (¬ (x73 ≤ 0) → ((0 ≤ (-a2)) ∧ (inR (48 + ((-a2) % 10))) ∧ Ci d q9_feed [zr a1, zi (48 + ((-a2) % 10))] M72 (fun x79 M78 => KW K M78 ∧ ((x79 ≤ 0 → (Q 0 M78)) ∧ (¬ (x79 ≤ 0) → (Q 1 M78))))))))))))))))))))) : Ci (d + 1) qL_number [zr a1, zi a2] M Q := by
  refine Ci.of rfl rfl (Nat.le_of_ble_eq_true rfl) (fun w hw x e => by subst e; simp at hw) (L := [some (zr a1), some (zi a2), none]) rfl ?_
  refine Xi.up (pc' := 1) (fun _ _ k => x_iload_n dXL_number_0 rfl rfl k) ?_
  refine Xi.br (tgt := 9) (pc' := 4) (0 ≤ a2) (fun _ _ kt kf => x_if_ge dXL_number_1 rfl kt kf) (fun c => ?_) (fun c => ?_)
  · have h := h.1 c
    refine Xi.up (pc' := 10) (fun _ _ k => x_iload_n dXL_number_9 rfl rfl k) ?_
    refine Xi.up (pc' := 11) (L' := [some (zr a1), some (zi a2), some (zi a2)]) (fun _ _ k => x_istore_n dXL_number_10 rfl (by decide) rfl k) ?_
    refine Xi.up (pc' := 12) (fun _ _ k => x_iload_n dXL_number_11 rfl rfl k) ?_
    refine Xi.br (tgt := 24) (pc' := 15) (0 ≤ a2) (fun _ _ kt kf => x_if_ge dXL_number_12 rfl kt kf) (fun c => ?_) (fun c => ?_)
    · have h := h.1 c
      refine Xi.up (pc' := 25) (fun _ _ k => x_iload_n dXL_number_24 rfl rfl k) ?_
      refine Xi.up (pc' := 27) (fun _ _ k => x_bipush dXL_number_25 (show inR 10 from ⟨by decide, by decide⟩) (by decide) k) ?_
      refine Xi.br (tgt := 44) (pc' := 30) (a2 < 10) (fun _ _ kt kf => x_icmp_lt dXL_number_27 rfl kt kf) (fun c => ?_) (fun c => ?_)
      · have h := h.1 c
        refine Xi.up (pc' := 45) (fun _ _ k => x_aload_n dXL_number_44 rfl rfl k) ?_
        refine Xi.up (pc' := 47) (fun _ _ k => x_bipush dXL_number_45 (show inR 48 from ⟨by decide, by decide⟩) (by decide) k) ?_
        refine Xi.up (pc' := 48) (fun _ _ k => x_iload_n dXL_number_47 rfl rfl k) ?_
        refine Xi.up (pc' := 50) (fun _ _ k => x_bipush dXL_number_48 (show inR 10 from ⟨by decide, by decide⟩) (by decide) k) ?_
        obtain ⟨g1, h⟩ := h
        refine Xi.up (pc' := 51) (fun _ _ k => x_iremK g1 (show (0 : Int) < 10 by decide) dXL_number_50 k) ?_
        obtain ⟨g2, h⟩ := h
        refine Xi.up (pc' := 52) (fun _ _ k => x_iadd dXL_number_51 g2 k) ?_
        obtain ⟨x4, M3, hc6, hK5, h⟩ := h
        refine Xi.up (pc' := 55) (st' := [zi x4]) (fun _ _ k => x_callVK (ci := 9) (as := [zi (48 + (a2 % 10))]) (st := []) hK k9_feed lmL_17 dXL_number_52 rfl (by decide) (zs8 rfl) h1.1 ⟨_, _, rfl⟩ hc6 k) ?_
        refine Xi.br (tgt := 62) (pc' := 58) (x4 ≤ 0) (fun _ _ kt kf => x_if_le dXL_number_55 rfl kt kf) (fun c => ?_) (fun c => ?_)
        · have h := h.1 c
          refine Xi.up (pc' := 63) (fun _ _ k => x_iconst dXL_number_62 (show inR 0 from ⟨by decide, by decide⟩) k) ?_
          exact Xi.ret ⟨dXL_number_63, Or.inr ⟨rfl, Or.inl rfl⟩⟩ h
        · have h := h.2 c
          refine Xi.up (pc' := 59) (fun _ _ k => x_iconst dXL_number_58 (show inR 1 from ⟨by decide, by decide⟩) k) ?_
          refine Xi.up (pc' := 63) (fun _ _ k => x_goto dXL_number_59 rfl k) ?_
          exact Xi.ret ⟨dXL_number_63, Or.inr ⟨rfl, Or.inr rfl⟩⟩ h
      · have h := h.2 c
        refine Xi.up (pc' := 31) (fun _ _ k => x_aload_n dXL_number_30 rfl rfl k) ?_
        refine Xi.up (pc' := 33) (fun _ _ k => x_bipush dXL_number_31 (show inR 48 from ⟨by decide, by decide⟩) (by decide) k) ?_
        refine Xi.up (pc' := 34) (fun _ _ k => x_iload_n dXL_number_33 rfl rfl k) ?_
        refine Xi.up (pc' := 36) (fun _ _ k => x_bipush dXL_number_34 (show inR 10 from ⟨by decide, by decide⟩) (by decide) k) ?_
        obtain ⟨g7, h⟩ := h
        refine Xi.up (pc' := 37) (fun _ _ k => x_idivK g7 (show (0 : Int) < 10 by decide) dXL_number_36 k) ?_
        obtain ⟨g8, h⟩ := h
        refine Xi.up (pc' := 38) (fun _ _ k => x_iadd dXL_number_37 g8 k) ?_
        obtain ⟨x10, M9, hc12, hK11, h⟩ := h
        refine Xi.up (pc' := 41) (st' := [zi x10]) (fun _ _ k => x_callVK (ci := 9) (as := [zi (48 + (a2 / 10))]) (st := []) hK k9_feed lmL_17 dXL_number_38 rfl (by decide) (zs8 rfl) h1.1 ⟨_, _, rfl⟩ hc12 k) ?_
        refine Xi.br (tgt := 62) (pc' := 44) (x10 ≤ 0) (fun _ _ kt kf => x_if_le dXL_number_41 rfl kt kf) (fun c => ?_) (fun c => ?_)
        · have h := h.1 c
          refine Xi.up (pc' := 63) (fun _ _ k => x_iconst dXL_number_62 (show inR 0 from ⟨by decide, by decide⟩) k) ?_
          exact Xi.ret ⟨dXL_number_63, Or.inr ⟨rfl, Or.inl rfl⟩⟩ h
        · have h := h.2 c
          refine Xi.up (pc' := 45) (fun _ _ k => x_aload_n dXL_number_44 rfl rfl k) ?_
          refine Xi.up (pc' := 47) (fun _ _ k => x_bipush dXL_number_45 (show inR 48 from ⟨by decide, by decide⟩) (by decide) k) ?_
          refine Xi.up (pc' := 48) (fun _ _ k => x_iload_n dXL_number_47 rfl rfl k) ?_
          refine Xi.up (pc' := 50) (fun _ _ k => x_bipush dXL_number_48 (show inR 10 from ⟨by decide, by decide⟩) (by decide) k) ?_
          obtain ⟨g13, h⟩ := h
          refine Xi.up (pc' := 51) (fun _ _ k => x_iremK g13 (show (0 : Int) < 10 by decide) dXL_number_50 k) ?_
          obtain ⟨g14, h⟩ := h
          refine Xi.up (pc' := 52) (fun _ _ k => x_iadd dXL_number_51 g14 k) ?_
          obtain ⟨x16, M15, hc18, hK17, h⟩ := h
          refine Xi.up (pc' := 55) (st' := [zi x16]) (fun _ _ k => x_callVK (ci := 9) (as := [zi (48 + (a2 % 10))]) (st := []) hK11 k9_feed lmL_17 dXL_number_52 rfl (by decide) (zs8 rfl) h1.1 ⟨_, _, rfl⟩ hc18 k) ?_
          refine Xi.br (tgt := 62) (pc' := 58) (x16 ≤ 0) (fun _ _ kt kf => x_if_le dXL_number_55 rfl kt kf) (fun c => ?_) (fun c => ?_)
          · have h := h.1 c
            refine Xi.up (pc' := 63) (fun _ _ k => x_iconst dXL_number_62 (show inR 0 from ⟨by decide, by decide⟩) k) ?_
            exact Xi.ret ⟨dXL_number_63, Or.inr ⟨rfl, Or.inl rfl⟩⟩ h
          · have h := h.2 c
            refine Xi.up (pc' := 59) (fun _ _ k => x_iconst dXL_number_58 (show inR 1 from ⟨by decide, by decide⟩) k) ?_
            refine Xi.up (pc' := 63) (fun _ _ k => x_goto dXL_number_59 rfl k) ?_
            exact Xi.ret ⟨dXL_number_63, Or.inr ⟨rfl, Or.inr rfl⟩⟩ h
    · have h := h.2 c
      refine Xi.up (pc' := 16) (fun _ _ k => x_aload_n dXL_number_15 rfl rfl k) ?_
      refine Xi.up (pc' := 18) (fun _ _ k => x_bipush dXL_number_16 (show inR 45 from ⟨by decide, by decide⟩) (by decide) k) ?_
      obtain ⟨x20, M19, hc22, hK21, h⟩ := h
      refine Xi.up (pc' := 21) (st' := [zi x20]) (fun _ _ k => x_callVK (ci := 9) (as := [zi 45]) (st := []) hK k9_feed lmL_17 dXL_number_18 rfl (by decide) (zs8 rfl) h1.1 ⟨_, _, rfl⟩ hc22 k) ?_
      refine Xi.br (tgt := 62) (pc' := 24) (x20 ≤ 0) (fun _ _ kt kf => x_if_le dXL_number_21 rfl kt kf) (fun c => ?_) (fun c => ?_)
      · have h := h.1 c
        refine Xi.up (pc' := 63) (fun _ _ k => x_iconst dXL_number_62 (show inR 0 from ⟨by decide, by decide⟩) k) ?_
        exact Xi.ret ⟨dXL_number_63, Or.inr ⟨rfl, Or.inl rfl⟩⟩ h
      · have h := h.2 c
        refine Xi.up (pc' := 25) (fun _ _ k => x_iload_n dXL_number_24 rfl rfl k) ?_
        refine Xi.up (pc' := 27) (fun _ _ k => x_bipush dXL_number_25 (show inR 10 from ⟨by decide, by decide⟩) (by decide) k) ?_
        refine Xi.br (tgt := 44) (pc' := 30) (a2 < 10) (fun _ _ kt kf => x_icmp_lt dXL_number_27 rfl kt kf) (fun c => ?_) (fun c => ?_)
        · have h := h.1 c
          refine Xi.up (pc' := 45) (fun _ _ k => x_aload_n dXL_number_44 rfl rfl k) ?_
          refine Xi.up (pc' := 47) (fun _ _ k => x_bipush dXL_number_45 (show inR 48 from ⟨by decide, by decide⟩) (by decide) k) ?_
          refine Xi.up (pc' := 48) (fun _ _ k => x_iload_n dXL_number_47 rfl rfl k) ?_
          refine Xi.up (pc' := 50) (fun _ _ k => x_bipush dXL_number_48 (show inR 10 from ⟨by decide, by decide⟩) (by decide) k) ?_
          obtain ⟨g23, h⟩ := h
          refine Xi.up (pc' := 51) (fun _ _ k => x_iremK g23 (show (0 : Int) < 10 by decide) dXL_number_50 k) ?_
          obtain ⟨g24, h⟩ := h
          refine Xi.up (pc' := 52) (fun _ _ k => x_iadd dXL_number_51 g24 k) ?_
          obtain ⟨x26, M25, hc28, hK27, h⟩ := h
          refine Xi.up (pc' := 55) (st' := [zi x26]) (fun _ _ k => x_callVK (ci := 9) (as := [zi (48 + (a2 % 10))]) (st := []) hK21 k9_feed lmL_17 dXL_number_52 rfl (by decide) (zs8 rfl) h1.1 ⟨_, _, rfl⟩ hc28 k) ?_
          refine Xi.br (tgt := 62) (pc' := 58) (x26 ≤ 0) (fun _ _ kt kf => x_if_le dXL_number_55 rfl kt kf) (fun c => ?_) (fun c => ?_)
          · have h := h.1 c
            refine Xi.up (pc' := 63) (fun _ _ k => x_iconst dXL_number_62 (show inR 0 from ⟨by decide, by decide⟩) k) ?_
            exact Xi.ret ⟨dXL_number_63, Or.inr ⟨rfl, Or.inl rfl⟩⟩ h
          · have h := h.2 c
            refine Xi.up (pc' := 59) (fun _ _ k => x_iconst dXL_number_58 (show inR 1 from ⟨by decide, by decide⟩) k) ?_
            refine Xi.up (pc' := 63) (fun _ _ k => x_goto dXL_number_59 rfl k) ?_
            exact Xi.ret ⟨dXL_number_63, Or.inr ⟨rfl, Or.inr rfl⟩⟩ h
        · have h := h.2 c
          refine Xi.up (pc' := 31) (fun _ _ k => x_aload_n dXL_number_30 rfl rfl k) ?_
          refine Xi.up (pc' := 33) (fun _ _ k => x_bipush dXL_number_31 (show inR 48 from ⟨by decide, by decide⟩) (by decide) k) ?_
          refine Xi.up (pc' := 34) (fun _ _ k => x_iload_n dXL_number_33 rfl rfl k) ?_
          refine Xi.up (pc' := 36) (fun _ _ k => x_bipush dXL_number_34 (show inR 10 from ⟨by decide, by decide⟩) (by decide) k) ?_
          obtain ⟨g29, h⟩ := h
          refine Xi.up (pc' := 37) (fun _ _ k => x_idivK g29 (show (0 : Int) < 10 by decide) dXL_number_36 k) ?_
          obtain ⟨g30, h⟩ := h
          refine Xi.up (pc' := 38) (fun _ _ k => x_iadd dXL_number_37 g30 k) ?_
          obtain ⟨x32, M31, hc34, hK33, h⟩ := h
          refine Xi.up (pc' := 41) (st' := [zi x32]) (fun _ _ k => x_callVK (ci := 9) (as := [zi (48 + (a2 / 10))]) (st := []) hK21 k9_feed lmL_17 dXL_number_38 rfl (by decide) (zs8 rfl) h1.1 ⟨_, _, rfl⟩ hc34 k) ?_
          refine Xi.br (tgt := 62) (pc' := 44) (x32 ≤ 0) (fun _ _ kt kf => x_if_le dXL_number_41 rfl kt kf) (fun c => ?_) (fun c => ?_)
          · have h := h.1 c
            refine Xi.up (pc' := 63) (fun _ _ k => x_iconst dXL_number_62 (show inR 0 from ⟨by decide, by decide⟩) k) ?_
            exact Xi.ret ⟨dXL_number_63, Or.inr ⟨rfl, Or.inl rfl⟩⟩ h
          · have h := h.2 c
            refine Xi.up (pc' := 45) (fun _ _ k => x_aload_n dXL_number_44 rfl rfl k) ?_
            refine Xi.up (pc' := 47) (fun _ _ k => x_bipush dXL_number_45 (show inR 48 from ⟨by decide, by decide⟩) (by decide) k) ?_
            refine Xi.up (pc' := 48) (fun _ _ k => x_iload_n dXL_number_47 rfl rfl k) ?_
            refine Xi.up (pc' := 50) (fun _ _ k => x_bipush dXL_number_48 (show inR 10 from ⟨by decide, by decide⟩) (by decide) k) ?_
            obtain ⟨g35, h⟩ := h
            refine Xi.up (pc' := 51) (fun _ _ k => x_iremK g35 (show (0 : Int) < 10 by decide) dXL_number_50 k) ?_
            obtain ⟨g36, h⟩ := h
            refine Xi.up (pc' := 52) (fun _ _ k => x_iadd dXL_number_51 g36 k) ?_
            obtain ⟨x38, M37, hc40, hK39, h⟩ := h
            refine Xi.up (pc' := 55) (st' := [zi x38]) (fun _ _ k => x_callVK (ci := 9) (as := [zi (48 + (a2 % 10))]) (st := []) hK33 k9_feed lmL_17 dXL_number_52 rfl (by decide) (zs8 rfl) h1.1 ⟨_, _, rfl⟩ hc40 k) ?_
            refine Xi.br (tgt := 62) (pc' := 58) (x38 ≤ 0) (fun _ _ kt kf => x_if_le dXL_number_55 rfl kt kf) (fun c => ?_) (fun c => ?_)
            · have h := h.1 c
              refine Xi.up (pc' := 63) (fun _ _ k => x_iconst dXL_number_62 (show inR 0 from ⟨by decide, by decide⟩) k) ?_
              exact Xi.ret ⟨dXL_number_63, Or.inr ⟨rfl, Or.inl rfl⟩⟩ h
            · have h := h.2 c
              refine Xi.up (pc' := 59) (fun _ _ k => x_iconst dXL_number_58 (show inR 1 from ⟨by decide, by decide⟩) k) ?_
              refine Xi.up (pc' := 63) (fun _ _ k => x_goto dXL_number_59 rfl k) ?_
              exact Xi.ret ⟨dXL_number_63, Or.inr ⟨rfl, Or.inr rfl⟩⟩ h
  · have h := h.2 c
    refine Xi.up (pc' := 5) (fun _ _ k => x_iload_n dXL_number_4 rfl rfl k) ?_
    obtain ⟨g41, h⟩ := h
    refine Xi.up (pc' := 6) (fun _ _ k => x_ineg dXL_number_5 g41 k) ?_
    refine Xi.up (pc' := 10) (fun _ _ k => x_goto dXL_number_6 rfl k) ?_
    refine Xi.up (pc' := 11) (L' := [some (zr a1), some (zi a2), some (zi (-a2))]) (fun _ _ k => x_istore_n dXL_number_10 rfl (by decide) rfl k) ?_
    refine Xi.up (pc' := 12) (fun _ _ k => x_iload_n dXL_number_11 rfl rfl k) ?_
    refine Xi.br (tgt := 24) (pc' := 15) (0 ≤ a2) (fun _ _ kt kf => x_if_ge dXL_number_12 rfl kt kf) (fun c => ?_) (fun c => ?_)
    · have h := h.1 c
      refine Xi.up (pc' := 25) (fun _ _ k => x_iload_n dXL_number_24 rfl rfl k) ?_
      refine Xi.up (pc' := 27) (fun _ _ k => x_bipush dXL_number_25 (show inR 10 from ⟨by decide, by decide⟩) (by decide) k) ?_
      refine Xi.br (tgt := 44) (pc' := 30) ((-a2) < 10) (fun _ _ kt kf => x_icmp_lt dXL_number_27 rfl kt kf) (fun c => ?_) (fun c => ?_)
      · have h := h.1 c
        refine Xi.up (pc' := 45) (fun _ _ k => x_aload_n dXL_number_44 rfl rfl k) ?_
        refine Xi.up (pc' := 47) (fun _ _ k => x_bipush dXL_number_45 (show inR 48 from ⟨by decide, by decide⟩) (by decide) k) ?_
        refine Xi.up (pc' := 48) (fun _ _ k => x_iload_n dXL_number_47 rfl rfl k) ?_
        refine Xi.up (pc' := 50) (fun _ _ k => x_bipush dXL_number_48 (show inR 10 from ⟨by decide, by decide⟩) (by decide) k) ?_
        obtain ⟨g42, h⟩ := h
        refine Xi.up (pc' := 51) (fun _ _ k => x_iremK g42 (show (0 : Int) < 10 by decide) dXL_number_50 k) ?_
        obtain ⟨g43, h⟩ := h
        refine Xi.up (pc' := 52) (fun _ _ k => x_iadd dXL_number_51 g43 k) ?_
        obtain ⟨x45, M44, hc47, hK46, h⟩ := h
        refine Xi.up (pc' := 55) (st' := [zi x45]) (fun _ _ k => x_callVK (ci := 9) (as := [zi (48 + ((-a2) % 10))]) (st := []) hK k9_feed lmL_17 dXL_number_52 rfl (by decide) (zs8 rfl) h1.1 ⟨_, _, rfl⟩ hc47 k) ?_
        refine Xi.br (tgt := 62) (pc' := 58) (x45 ≤ 0) (fun _ _ kt kf => x_if_le dXL_number_55 rfl kt kf) (fun c => ?_) (fun c => ?_)
        · have h := h.1 c
          refine Xi.up (pc' := 63) (fun _ _ k => x_iconst dXL_number_62 (show inR 0 from ⟨by decide, by decide⟩) k) ?_
          exact Xi.ret ⟨dXL_number_63, Or.inr ⟨rfl, Or.inl rfl⟩⟩ h
        · have h := h.2 c
          refine Xi.up (pc' := 59) (fun _ _ k => x_iconst dXL_number_58 (show inR 1 from ⟨by decide, by decide⟩) k) ?_
          refine Xi.up (pc' := 63) (fun _ _ k => x_goto dXL_number_59 rfl k) ?_
          exact Xi.ret ⟨dXL_number_63, Or.inr ⟨rfl, Or.inr rfl⟩⟩ h
      · have h := h.2 c
        refine Xi.up (pc' := 31) (fun _ _ k => x_aload_n dXL_number_30 rfl rfl k) ?_
        refine Xi.up (pc' := 33) (fun _ _ k => x_bipush dXL_number_31 (show inR 48 from ⟨by decide, by decide⟩) (by decide) k) ?_
        refine Xi.up (pc' := 34) (fun _ _ k => x_iload_n dXL_number_33 rfl rfl k) ?_
        refine Xi.up (pc' := 36) (fun _ _ k => x_bipush dXL_number_34 (show inR 10 from ⟨by decide, by decide⟩) (by decide) k) ?_
        obtain ⟨g48, h⟩ := h
        refine Xi.up (pc' := 37) (fun _ _ k => x_idivK g48 (show (0 : Int) < 10 by decide) dXL_number_36 k) ?_
        obtain ⟨g49, h⟩ := h
        refine Xi.up (pc' := 38) (fun _ _ k => x_iadd dXL_number_37 g49 k) ?_
        obtain ⟨x51, M50, hc53, hK52, h⟩ := h
        refine Xi.up (pc' := 41) (st' := [zi x51]) (fun _ _ k => x_callVK (ci := 9) (as := [zi (48 + ((-a2) / 10))]) (st := []) hK k9_feed lmL_17 dXL_number_38 rfl (by decide) (zs8 rfl) h1.1 ⟨_, _, rfl⟩ hc53 k) ?_
        refine Xi.br (tgt := 62) (pc' := 44) (x51 ≤ 0) (fun _ _ kt kf => x_if_le dXL_number_41 rfl kt kf) (fun c => ?_) (fun c => ?_)
        · have h := h.1 c
          refine Xi.up (pc' := 63) (fun _ _ k => x_iconst dXL_number_62 (show inR 0 from ⟨by decide, by decide⟩) k) ?_
          exact Xi.ret ⟨dXL_number_63, Or.inr ⟨rfl, Or.inl rfl⟩⟩ h
        · have h := h.2 c
          refine Xi.up (pc' := 45) (fun _ _ k => x_aload_n dXL_number_44 rfl rfl k) ?_
          refine Xi.up (pc' := 47) (fun _ _ k => x_bipush dXL_number_45 (show inR 48 from ⟨by decide, by decide⟩) (by decide) k) ?_
          refine Xi.up (pc' := 48) (fun _ _ k => x_iload_n dXL_number_47 rfl rfl k) ?_
          refine Xi.up (pc' := 50) (fun _ _ k => x_bipush dXL_number_48 (show inR 10 from ⟨by decide, by decide⟩) (by decide) k) ?_
          obtain ⟨g54, h⟩ := h
          refine Xi.up (pc' := 51) (fun _ _ k => x_iremK g54 (show (0 : Int) < 10 by decide) dXL_number_50 k) ?_
          obtain ⟨g55, h⟩ := h
          refine Xi.up (pc' := 52) (fun _ _ k => x_iadd dXL_number_51 g55 k) ?_
          obtain ⟨x57, M56, hc59, hK58, h⟩ := h
          refine Xi.up (pc' := 55) (st' := [zi x57]) (fun _ _ k => x_callVK (ci := 9) (as := [zi (48 + ((-a2) % 10))]) (st := []) hK52 k9_feed lmL_17 dXL_number_52 rfl (by decide) (zs8 rfl) h1.1 ⟨_, _, rfl⟩ hc59 k) ?_
          refine Xi.br (tgt := 62) (pc' := 58) (x57 ≤ 0) (fun _ _ kt kf => x_if_le dXL_number_55 rfl kt kf) (fun c => ?_) (fun c => ?_)
          · have h := h.1 c
            refine Xi.up (pc' := 63) (fun _ _ k => x_iconst dXL_number_62 (show inR 0 from ⟨by decide, by decide⟩) k) ?_
            exact Xi.ret ⟨dXL_number_63, Or.inr ⟨rfl, Or.inl rfl⟩⟩ h
          · have h := h.2 c
            refine Xi.up (pc' := 59) (fun _ _ k => x_iconst dXL_number_58 (show inR 1 from ⟨by decide, by decide⟩) k) ?_
            refine Xi.up (pc' := 63) (fun _ _ k => x_goto dXL_number_59 rfl k) ?_
            exact Xi.ret ⟨dXL_number_63, Or.inr ⟨rfl, Or.inr rfl⟩⟩ h
    · have h := h.2 c
      refine Xi.up (pc' := 16) (fun _ _ k => x_aload_n dXL_number_15 rfl rfl k) ?_
      refine Xi.up (pc' := 18) (fun _ _ k => x_bipush dXL_number_16 (show inR 45 from ⟨by decide, by decide⟩) (by decide) k) ?_
      obtain ⟨x61, M60, hc63, hK62, h⟩ := h
      refine Xi.up (pc' := 21) (st' := [zi x61]) (fun _ _ k => x_callVK (ci := 9) (as := [zi 45]) (st := []) hK k9_feed lmL_17 dXL_number_18 rfl (by decide) (zs8 rfl) h1.1 ⟨_, _, rfl⟩ hc63 k) ?_
      refine Xi.br (tgt := 62) (pc' := 24) (x61 ≤ 0) (fun _ _ kt kf => x_if_le dXL_number_21 rfl kt kf) (fun c => ?_) (fun c => ?_)
      · have h := h.1 c
        refine Xi.up (pc' := 63) (fun _ _ k => x_iconst dXL_number_62 (show inR 0 from ⟨by decide, by decide⟩) k) ?_
        exact Xi.ret ⟨dXL_number_63, Or.inr ⟨rfl, Or.inl rfl⟩⟩ h
      · have h := h.2 c
        refine Xi.up (pc' := 25) (fun _ _ k => x_iload_n dXL_number_24 rfl rfl k) ?_
        refine Xi.up (pc' := 27) (fun _ _ k => x_bipush dXL_number_25 (show inR 10 from ⟨by decide, by decide⟩) (by decide) k) ?_
        refine Xi.br (tgt := 44) (pc' := 30) ((-a2) < 10) (fun _ _ kt kf => x_icmp_lt dXL_number_27 rfl kt kf) (fun c => ?_) (fun c => ?_)
        · have h := h.1 c
          refine Xi.up (pc' := 45) (fun _ _ k => x_aload_n dXL_number_44 rfl rfl k) ?_
          refine Xi.up (pc' := 47) (fun _ _ k => x_bipush dXL_number_45 (show inR 48 from ⟨by decide, by decide⟩) (by decide) k) ?_
          refine Xi.up (pc' := 48) (fun _ _ k => x_iload_n dXL_number_47 rfl rfl k) ?_
          refine Xi.up (pc' := 50) (fun _ _ k => x_bipush dXL_number_48 (show inR 10 from ⟨by decide, by decide⟩) (by decide) k) ?_
          obtain ⟨g64, h⟩ := h
          refine Xi.up (pc' := 51) (fun _ _ k => x_iremK g64 (show (0 : Int) < 10 by decide) dXL_number_50 k) ?_
          obtain ⟨g65, h⟩ := h
          refine Xi.up (pc' := 52) (fun _ _ k => x_iadd dXL_number_51 g65 k) ?_
          obtain ⟨x67, M66, hc69, hK68, h⟩ := h
          refine Xi.up (pc' := 55) (st' := [zi x67]) (fun _ _ k => x_callVK (ci := 9) (as := [zi (48 + ((-a2) % 10))]) (st := []) hK62 k9_feed lmL_17 dXL_number_52 rfl (by decide) (zs8 rfl) h1.1 ⟨_, _, rfl⟩ hc69 k) ?_
          refine Xi.br (tgt := 62) (pc' := 58) (x67 ≤ 0) (fun _ _ kt kf => x_if_le dXL_number_55 rfl kt kf) (fun c => ?_) (fun c => ?_)
          · have h := h.1 c
            refine Xi.up (pc' := 63) (fun _ _ k => x_iconst dXL_number_62 (show inR 0 from ⟨by decide, by decide⟩) k) ?_
            exact Xi.ret ⟨dXL_number_63, Or.inr ⟨rfl, Or.inl rfl⟩⟩ h
          · have h := h.2 c
            refine Xi.up (pc' := 59) (fun _ _ k => x_iconst dXL_number_58 (show inR 1 from ⟨by decide, by decide⟩) k) ?_
            refine Xi.up (pc' := 63) (fun _ _ k => x_goto dXL_number_59 rfl k) ?_
            exact Xi.ret ⟨dXL_number_63, Or.inr ⟨rfl, Or.inr rfl⟩⟩ h
        · have h := h.2 c
          refine Xi.up (pc' := 31) (fun _ _ k => x_aload_n dXL_number_30 rfl rfl k) ?_
          refine Xi.up (pc' := 33) (fun _ _ k => x_bipush dXL_number_31 (show inR 48 from ⟨by decide, by decide⟩) (by decide) k) ?_
          refine Xi.up (pc' := 34) (fun _ _ k => x_iload_n dXL_number_33 rfl rfl k) ?_
          refine Xi.up (pc' := 36) (fun _ _ k => x_bipush dXL_number_34 (show inR 10 from ⟨by decide, by decide⟩) (by decide) k) ?_
          obtain ⟨g70, h⟩ := h
          refine Xi.up (pc' := 37) (fun _ _ k => x_idivK g70 (show (0 : Int) < 10 by decide) dXL_number_36 k) ?_
          obtain ⟨g71, h⟩ := h
          refine Xi.up (pc' := 38) (fun _ _ k => x_iadd dXL_number_37 g71 k) ?_
          obtain ⟨x73, M72, hc75, hK74, h⟩ := h
          refine Xi.up (pc' := 41) (st' := [zi x73]) (fun _ _ k => x_callVK (ci := 9) (as := [zi (48 + ((-a2) / 10))]) (st := []) hK62 k9_feed lmL_17 dXL_number_38 rfl (by decide) (zs8 rfl) h1.1 ⟨_, _, rfl⟩ hc75 k) ?_
          refine Xi.br (tgt := 62) (pc' := 44) (x73 ≤ 0) (fun _ _ kt kf => x_if_le dXL_number_41 rfl kt kf) (fun c => ?_) (fun c => ?_)
          · have h := h.1 c
            refine Xi.up (pc' := 63) (fun _ _ k => x_iconst dXL_number_62 (show inR 0 from ⟨by decide, by decide⟩) k) ?_
            exact Xi.ret ⟨dXL_number_63, Or.inr ⟨rfl, Or.inl rfl⟩⟩ h
          · have h := h.2 c
            refine Xi.up (pc' := 45) (fun _ _ k => x_aload_n dXL_number_44 rfl rfl k) ?_
            refine Xi.up (pc' := 47) (fun _ _ k => x_bipush dXL_number_45 (show inR 48 from ⟨by decide, by decide⟩) (by decide) k) ?_
            refine Xi.up (pc' := 48) (fun _ _ k => x_iload_n dXL_number_47 rfl rfl k) ?_
            refine Xi.up (pc' := 50) (fun _ _ k => x_bipush dXL_number_48 (show inR 10 from ⟨by decide, by decide⟩) (by decide) k) ?_
            obtain ⟨g76, h⟩ := h
            refine Xi.up (pc' := 51) (fun _ _ k => x_iremK g76 (show (0 : Int) < 10 by decide) dXL_number_50 k) ?_
            obtain ⟨g77, h⟩ := h
            refine Xi.up (pc' := 52) (fun _ _ k => x_iadd dXL_number_51 g77 k) ?_
            obtain ⟨x79, M78, hc81, hK80, h⟩ := h
            refine Xi.up (pc' := 55) (st' := [zi x79]) (fun _ _ k => x_callVK (ci := 9) (as := [zi (48 + ((-a2) % 10))]) (st := []) hK74 k9_feed lmL_17 dXL_number_52 rfl (by decide) (zs8 rfl) h1.1 ⟨_, _, rfl⟩ hc81 k) ?_
            refine Xi.br (tgt := 62) (pc' := 58) (x79 ≤ 0) (fun _ _ kt kf => x_if_le dXL_number_55 rfl kt kf) (fun c => ?_) (fun c => ?_)
            · have h := h.1 c
              refine Xi.up (pc' := 63) (fun _ _ k => x_iconst dXL_number_62 (show inR 0 from ⟨by decide, by decide⟩) k) ?_
              exact Xi.ret ⟨dXL_number_63, Or.inr ⟨rfl, Or.inl rfl⟩⟩ h
            · have h := h.2 c
              refine Xi.up (pc' := 59) (fun _ _ k => x_iconst dXL_number_58 (show inR 1 from ⟨by decide, by decide⟩) k) ?_
              refine Xi.up (pc' := 63) (fun _ _ k => x_goto dXL_number_59 rfl k) ?_
              exact Xi.ret ⟨dXL_number_63, Or.inr ⟨rfl, Or.inr rfl⟩⟩ h
