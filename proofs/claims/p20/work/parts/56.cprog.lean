/-! the class reads a statement, what stands behind one, a whole program -/
def zGo (tp : Nat → Int) (N n : Nat) : Nat → St → Int × St
  | 0, S => (S.1, S)
  | k + 1, S =>
    if (if S.2.2.2.2.1 = 0 then zBehind tp n S else zStmt tp N S).1 = 1 then zGo tp N n k (if S.2.2.2.2.1 = 0 then zBehind tp n S else zStmt tp N S).2
    else if (if S.2.2.2.2.1 = 0 then zBehind tp n S else zStmt tp N S).1 = 2 then (-1, (if S.2.2.2.2.1 = 0 then zBehind tp n S else zStmt tp N S).2)
    else ((if S.2.2.2.2.1 = 0 then zBehind tp n S else zStmt tp N S).2.1, (if S.2.2.2.2.1 = 0 then zBehind tp n S else zStmt tp N S).2)
section CPROG
variable {d : Nat} {K M0 M M' : ZMem} {tp : Nat → Int} {n N : Nat} {S : St}
theorem cs_stmt (hT : Tp tp n) (hN : n < N) (h : CRs K M0 M tp n S) (hR : ReaderAt K 5) (hd : 5 ≤ d) {Q : Int → ZMem → Prop} (q1 : (zStmt tp N S).1 = 1 → ∀ M', CRs K M0 M' tp n (zStmt tp N S).2 → Q 1 M') (q0 : (zStmt tp N S).1 ≠ 1 → ∀ M', CF K M0 M' tp n (zStmt tp N S).2.1 → Q 0 M') : Ci d q5_readStatement [zr 5] M Q := by
  obtain ⟨d, rfl⟩ : ∃ e, d = e + 1 := ⟨d - 1, by omega⟩
  have hn := hT.1
  have hp := h.1.2.2.2
  have e4 : mI M 5 4 = (S.1 : Int) := h.1.2.2.1
  have esz : mI M 8 10 = zsz S := congrArg (fun P : Pg => P.2.2.2) h.2.2.2.2.2.2.1
  unfold zStmt at q1 q0
  by_cases h40 : zsz S < 40
  · rw [if_neg (fun c => c h40)] at q1 q0
    have leaf : (zV (tp S.1) ∧ tp (S.1 + 1) = 58 → ((zForm tp N (zAdd (zP S (S.1 + 2)) 1 (tp S.1 - 97))).1 = 1 → ∀ M', CRs K M0 M' tp n (zForm tp N (zAdd (zP S (S.1 + 2)) 1 (tp S.1 - 97))).2 → Q 1 M') ∧ ((zForm tp N (zAdd (zP S (S.1 + 2)) 1 (tp S.1 - 97))).1 ≠ 1 → ∀ M', CF K M0 M' tp n (zForm tp N (zAdd (zP S (S.1 + 2)) 1 (tp S.1 - 97))).2.1 → Q 0 M')) →
        (¬ (zV (tp S.1) ∧ tp (S.1 + 1) = 58) → zV (tp S.1) ∧ tp (S.1 + 1) = 63 → ((zChoose tp N (zP S (S.1 + 2)) (tp S.1 - 97)).1 = 1 → ∀ M', CRs K M0 M' tp n (zChoose tp N (zP S (S.1 + 2)) (tp S.1 - 97)).2 → Q 1 M') ∧ ((zChoose tp N (zP S (S.1 + 2)) (tp S.1 - 97)).1 ≠ 1 → ∀ M', CF K M0 M' tp n (zChoose tp N (zP S (S.1 + 2)) (tp S.1 - 97)).2.1 → Q 0 M')) →
        (¬ (zV (tp S.1) ∧ tp (S.1 + 1) = 58) → ¬ (zV (tp S.1) ∧ tp (S.1 + 1) = 63) → ((zTest tp N S).1 = 1 → ∀ M', CRs K M0 M' tp n (zTest tp N S).2 → Q 1 M') ∧ ((zTest tp N S).1 ≠ 1 → ∀ M', CF K M0 M' tp n (zTest tp N S).2.1 → Q 0 M')) →
        Ci d q5_isVariable [zi (tp S.1)] M (fun x11 M10 => KW K M10 ∧ ((x11 = 0 → (Ci d q5_isVariable [zi (tp S.1)] M10 (fun x15 M14 => KW K M14 ∧ ((x15 = 0 → (Ci d q5_readTest [zr 5] M14 (fun x19 M18 => KW K M18 ∧ (x19 = 0 ∨ x19 = 1) ∧ Q x19 M18))) ∧ (¬ (x15 = 0) → ((tp (S.1 + 1) ≠ 63 → (Ci d q5_readTest [zr 5] M14 (fun x24 M23 => KW K M23 ∧ (x24 = 0 ∨ x24 = 1) ∧ Q x24 M23))) ∧ (¬ (tp (S.1 + 1) ≠ 63) → ((inR ((mI M14 5 4) + 2)) ∧ (inR (tp S.1 - 97)) ∧ Ci d q5_readChoose [zr 5, zi (tp S.1 - 97)] (sI M14 5 4 ((mI M14 5 4) + 2)) (fun x32 M31 => KW K M31 ∧ (x32 = 0 ∨ x32 = 1) ∧ Q x32 M31))))))))) ∧ (¬ (x11 = 0) → ((tp (S.1 + 1) ≠ 58 → (Ci d q5_isVariable [zi (tp S.1)] M10 (fun x37 M36 => KW K M36 ∧ ((x37 = 0 → (Ci d q5_readTest [zr 5] M36 (fun x19 M18 => KW K M18 ∧ (x19 = 0 ∨ x19 = 1) ∧ Q x19 M18))) ∧ (¬ (x37 = 0) → ((tp (S.1 + 1) ≠ 63 → (Ci d q5_readTest [zr 5] M36 (fun x24 M23 => KW K M23 ∧ (x24 = 0 ∨ x24 = 1) ∧ Q x24 M23))) ∧ (¬ (tp (S.1 + 1) ≠ 63) → ((inR ((mI M36 5 4) + 2)) ∧ (inR (tp S.1 - 97)) ∧ Ci d q5_readChoose [zr 5, zi (tp S.1 - 97)] (sI M36 5 4 ((mI M36 5 4) + 2)) (fun x32 M31 => KW K M31 ∧ (x32 = 0 ∨ x32 = 1) ∧ Q x32 M31))))))))) ∧ (¬ (tp (S.1 + 1) ≠ 58) → ((inR ((mI M10 5 4) + 2)) ∧ (inR (tp S.1 - 97)) ∧ Ci d q5_addStatement [zr 5, zi 1, zi (tp S.1 - 97)] (sI M10 5 4 ((mI M10 5 4) + 2)) (fun x62 M61 => KW K M61 ∧ Ci d q5_readFormula [zr 5, zr 17] M61 (fun x66 M65 => KW K M65 ∧ (x66 = 0 ∨ x66 = 1) ∧ Q x66 M65)))))))) := fun lA lC lT => by
      have tst : ¬ (zV (tp S.1) ∧ tp (S.1 + 1) = 58) → ¬ (zV (tp S.1) ∧ tp (S.1 + 1) = 63) → Ci d q5_readTest [zr 5] M (fun x19 M18 => KW K M18 ∧ (x19 = 0 ∨ x19 = 1) ∧ Q x19 M18) := fun c1 c2 => by
        obtain ⟨a1, a0⟩ := lT c1 c2
        exact cs_test hT hN h hR (by omega) h40 (fun k M1 c => ⟨c.1.1, Or.inr rfl, a1 k M1 c⟩) (fun k M1 c => ⟨c.1.1, Or.inl rfl, a0 k M1 c⟩)
      have go2 : tp S.1 ≠ 0 → tp (S.1 + 1) ≠ 0 → CRs K M0 (sI M 5 4 ((S.1 : Int) + 2)) tp n (zP S (S.1 + 2)) := fun c1 c2 => by
        have := hT.in c2
        exact h.go (by omega) (by omega) (by omega)
      have cho : zV (tp S.1) → tp (S.1 + 1) = 63 → (inR ((mI M 5 4) + 2)) ∧ (inR (tp S.1 - 97)) ∧ Ci d q5_readChoose [zr 5, zi (tp S.1 - 97)] (sI M 5 4 ((mI M 5 4) + 2)) (fun x32 M31 => KW K M31 ∧ (x32 = 0 ∨ x32 = 1) ∧ Q x32 M31) := fun c1 c2 => by
        obtain ⟨a1, a0⟩ := lC (fun q => by omega) ⟨c1, c2⟩
        have g := go2 (by omega) (by omega)
        have := hT.in (p := S.1 + 1) (by omega)
        rw [e4]
        exact ⟨⟨by omega, by omega⟩, ⟨by omega, by omega⟩, cs_choose hT hN g hR (by omega) h40 (by omega) (fun k M1 c => ⟨c.1.1, Or.inr rfl, a1 k M1 c⟩) (fun k M1 c => ⟨c.1.1, Or.inl rfl, a0 k M1 c⟩)⟩
      refine s_isVar h.1.1 (fun cv => ⟨h.1.1, fun c => absurd c (by decide), fun _ => ⟨fun c58 => ?_, fun c58 => ?_⟩⟩) (fun cv => ⟨h.1.1, fun _ => ?_, fun c => absurd rfl c⟩)
      · refine s_isVar h.1.1 (fun cv => ⟨h.1.1, fun c => absurd c (by decide), fun _ => ⟨fun c63 => tst (fun q => c58 q.2) (fun q => c63 q.2), fun c63 => cho cv (Decidable.not_not.mp c63)⟩⟩) (fun cv2 => absurd cv cv2)
      · obtain ⟨a1, a0⟩ := lA ⟨cv, Decidable.not_not.mp c58⟩
        have g := go2 (by omega) (by omega)
        have := hT.in (p := S.1 + 1) (by omega)
        rw [e4]
        refine ⟨⟨by omega, by omega⟩, ⟨by omega, by omega⟩, cs_add g hR (by omega) h40 (by have := g.1.2.2.2; omega) (by omega) fun M1 c1 => ⟨c1.1.1, cs_form hT hN c1 hR (by omega) (fun k M1 c => ⟨c.1.1, Or.inr rfl, a1 k M1 c⟩) (fun k M1 c => ⟨c.1.1, Or.inl rfl, a0 k M1 c⟩)⟩⟩
      · refine s_isVar h.1.1 (fun cv2 => absurd cv2 cv) (fun _ => ⟨h.1.1, fun _ => tst (fun q => cv q.1) (fun q => cv q.1), fun c => absurd rfl c⟩)
    refine B5_readStatement h.1.1 hR ⟨fun _ => s_tat hT h.1 hR e4 ⟨h.1.1, ⟨by omega, by omega⟩, s_tat hT h.1 hR (k := S.1 + 1) (by omega) ⟨h.1.1, fun c40 => ⟨fun c91 => ⟨fun c126 => ⟨fun c33 => ?_, fun c33 => ?_⟩, fun c126 => ?_⟩, fun c91 => ?_⟩, fun c40 => ?_⟩⟩, fun c => absurd (by omega) c⟩
    · rw [if_neg c40, if_neg c91, if_neg c126, if_neg c33] at q1 q0
      have noT : ¬ (49 ≤ tp S.1 ∧ tp S.1 ≤ 57 ∧ tp (S.1 + 1) = 42 ∧ tp (S.1 + 2) = 40) → Ci d q5_isVariable [zi (tp S.1)] M (fun x11 M10 => KW K M10 ∧ ((x11 = 0 → (Ci d q5_isVariable [zi (tp S.1)] M10 (fun x15 M14 => KW K M14 ∧ ((x15 = 0 → (Ci d q5_readTest [zr 5] M14 (fun x19 M18 => KW K M18 ∧ (x19 = 0 ∨ x19 = 1) ∧ Q x19 M18))) ∧ (¬ (x15 = 0) → ((tp (S.1 + 1) ≠ 63 → (Ci d q5_readTest [zr 5] M14 (fun x24 M23 => KW K M23 ∧ (x24 = 0 ∨ x24 = 1) ∧ Q x24 M23))) ∧ (¬ (tp (S.1 + 1) ≠ 63) → ((inR ((mI M14 5 4) + 2)) ∧ (inR (tp S.1 - 97)) ∧ Ci d q5_readChoose [zr 5, zi (tp S.1 - 97)] (sI M14 5 4 ((mI M14 5 4) + 2)) (fun x32 M31 => KW K M31 ∧ (x32 = 0 ∨ x32 = 1) ∧ Q x32 M31))))))))) ∧ (¬ (x11 = 0) → ((tp (S.1 + 1) ≠ 58 → (Ci d q5_isVariable [zi (tp S.1)] M10 (fun x37 M36 => KW K M36 ∧ ((x37 = 0 → (Ci d q5_readTest [zr 5] M36 (fun x19 M18 => KW K M18 ∧ (x19 = 0 ∨ x19 = 1) ∧ Q x19 M18))) ∧ (¬ (x37 = 0) → ((tp (S.1 + 1) ≠ 63 → (Ci d q5_readTest [zr 5] M36 (fun x24 M23 => KW K M23 ∧ (x24 = 0 ∨ x24 = 1) ∧ Q x24 M23))) ∧ (¬ (tp (S.1 + 1) ≠ 63) → ((inR ((mI M36 5 4) + 2)) ∧ (inR (tp S.1 - 97)) ∧ Ci d q5_readChoose [zr 5, zi (tp S.1 - 97)] (sI M36 5 4 ((mI M36 5 4) + 2)) (fun x32 M31 => KW K M31 ∧ (x32 = 0 ∨ x32 = 1) ∧ Q x32 M31))))))))) ∧ (¬ (tp (S.1 + 1) ≠ 58) → ((inR ((mI M10 5 4) + 2)) ∧ (inR (tp S.1 - 97)) ∧ Ci d q5_addStatement [zr 5, zi 1, zi (tp S.1 - 97)] (sI M10 5 4 ((mI M10 5 4) + 2)) (fun x62 M61 => KW K M61 ∧ Ci d q5_readFormula [zr 5, zr 17] M61 (fun x66 M65 => KW K M65 ∧ (x66 = 0 ∨ x66 = 1) ∧ Q x66 M65)))))))) := fun cT => by
        rw [if_neg cT] at q1 q0
        refine leaf (fun c => ?_) (fun c c2 => ?_) (fun c c2 => ?_)
        · rw [if_pos c] at q1 q0; exact ⟨q1, q0⟩
        · rw [if_neg c, if_pos c2] at q1 q0; exact ⟨q1, q0⟩
        · rw [if_neg c, if_neg c2] at q1 q0; exact ⟨q1, q0⟩
      refine ⟨fun c => noT (by omega), fun c => ⟨fun c2 => noT (by omega), fun c2 => ⟨fun c3 => noT (by omega), fun c3 => ?_⟩⟩⟩
      have hin1 := hT.in (p := S.1 + 1) (by omega)
      refine ⟨⟨by omega, by omega⟩, s_tat hT h.1 hR (k := S.1 + 2) (by omega) ⟨h.1.1, fun c4 => noT (by omega), fun c4 => ?_⟩⟩
      rw [if_pos (show 49 ≤ tp S.1 ∧ tp S.1 ≤ 57 ∧ tp (S.1 + 1) = 42 ∧ tp (S.1 + 2) = 40 by omega)] at q1 q0
      have hin2 := hT.in (p := S.1 + 2) (by omega)
      rw [e4]
      have g := h.go (x := (S.1 : Int) + 2) (p' := S.1 + 2) (by omega) (by omega) (by omega)
      refine ⟨⟨by omega, by omega⟩, ⟨by omega, by omega⟩, cs_add g hR (by omega) h40 (by have := g.1.2.2.2; omega) (by omega) fun M1 c1 => ⟨c1.1.1, ?_⟩⟩
      exact cs_brk hT c1 hR (by omega) hin2 (fun k M1 c => ⟨c.1.1, Or.inr rfl, q1 k M1 c⟩) (fun k M1 c => ⟨c.1.1, Or.inl rfl, q0 k M1 c⟩)
    · have c33 := Decidable.not_not.mp c33
      have hin := hT.in (p := S.1) (by omega)
      rw [if_neg c40, if_neg c91, if_neg c126, if_pos c33] at q1
      refine cs_add h hR (by omega) h40 (by omega) (by omega) fun M1 c1 => ⟨c1.1.1, ?_⟩
      have e41 : mI M1 5 4 = (S.1 : Int) := c1.1.2.2.1
      rw [e41]
      exact ⟨⟨by omega, by omega⟩, q1 rfl _ (c1.go (p' := S.1 + 1) (by omega) (by show S.1 ≤ S.1 + 1; omega) (by omega))⟩
    · have c126 := Decidable.not_not.mp c126
      have hin := hT.in (p := S.1) (by omega)
      rw [if_neg c40, if_neg c91, if_pos c126] at q1 q0
      have g := h.go (x := (S.1 : Int) + 1) (p' := S.1 + 1) (by omega) (by omega) (by omega)
      rw [e4]
      refine ⟨⟨by omega, by omega⟩, s_tat hT g.1 hR (k := S.1 + 1) (by rw [mI_sI_eq]; omega) ⟨g.1.1, fun c5 => ?_, fun c5 => ?_⟩⟩
      · rw [if_neg c5] at q0
        exact q0 (show (0 : Int) ≠ 1 by decide) _ g.cf
      · have c5 := Decidable.not_not.mp c5
        have hin1 := hT.in (p := S.1 + 1) (by omega)
        rw [if_pos c5] at q1 q0
        refine cs_add g hR (by omega) h40 (by have := g.1.2.2.2; omega) (by omega) fun M1 c1 => ⟨c1.1.1, ?_⟩
        exact cs_brk hT c1 hR (by omega) hin1 (fun k M1 c => ⟨c.1.1, fun q => absurd q (by decide), fun _ => q1 k M1 c⟩) (fun k M1 c => ⟨c.1.1, fun _ => q0 k M1 c, fun q => absurd rfl q⟩)
    · have c91 := Decidable.not_not.mp c91
      have hin := hT.in (p := S.1) (by omega)
      rw [if_neg c40, if_pos c91] at q1 q0
      refine cs_add h hR (by omega) h40 (by omega) (by omega) fun M1 c1 => ⟨c1.1.1, ?_⟩
      exact cs_brk hT c1 hR (by omega) hin (fun k M1 c => ⟨c.1.1, Or.inr rfl, q1 k M1 c⟩) (fun k M1 c => ⟨c.1.1, Or.inl rfl, q0 k M1 c⟩)
    · have c40 := Decidable.not_not.mp c40
      have hin := hT.in (p := S.1) (by omega)
      rw [if_pos c40] at q1 q0
      refine cs_add h hR (by omega) h40 (by omega) (by omega) fun M1 c1 => ⟨c1.1.1, ?_⟩
      exact cs_brk hT c1 hR (by omega) hin (fun k M1 c => ⟨c.1.1, Or.inr rfl, q1 k M1 c⟩) (fun k M1 c => ⟨c.1.1, Or.inl rfl, q0 k M1 c⟩)
  · rw [if_pos h40] at q0
    exact B5_readStatement h.1.1 hR ⟨fun c => absurd (by omega) h40, fun _ => q0 (show (0 : Int) ≠ 1 by decide) M h.cf⟩
theorem cs_behind (hT : Tp tp n) (h : CRs K M0 M tp n S) (hR : ReaderAt K 5) (hd : 3 ≤ d) {Q : Int → ZMem → Prop} (q1 : (zBehind tp n S).1 = 1 → ∀ M', CRs K M0 M' tp n (zBehind tp n S).2 → Q 1 M') (q2 : (zBehind tp n S).1 = 2 → ∀ M', CRs K M0 M tp n (zBehind tp n S).2 → M' = sI M 5 7 1 → Q 1 M') (q0 : (zBehind tp n S).1 = 0 → ∀ M', CF K M0 M' tp n (zBehind tp n S).2.1 → Q 0 M') : Ci d q5_readBehind [zr 5] M Q := by
  obtain ⟨d, rfl⟩ : ∃ e, d = e + 1 := ⟨d - 1, by omega⟩
  have hn := hT.1
  have hA : ProgramAt K 8 := hR.2.2.2.2.2.2.2.2
  have e4 : mI M 5 4 = (S.1 : Int) := h.1.2.2.1
  have e5 := h.2.1
  have hpi := h.pi
  have ho := hpi.2.2.2.2.1
  have eg := h.2.2.2.2.2.2.1
  unfold zBehind at q1 q2 q0
  have adv : ∀ (M1 : ZMem) (S1 : St), CRs K M0 M1 tp n S1 → S1.1 = S.1 → S.1 < n → (CRs K M0 (sI M1 5 4 ((S.1 : Int) + 1)) tp n (zP S1 (S.1 + 1)) → Q 1 (sI M1 5 4 ((S.1 : Int) + 1))) → Xi (d + 1) q5_readBehind 204 [some (zr 5), none, none, none] [] M1 Q := fun M1 S1 c1 es hin q => by
    have e41 : mI M1 5 4 = (S.1 : Int) := by rw [c1.1.2.2.1, es]
    refine B5_readBehind_204 c1.1.1 hR ?_
    rw [e41]
    exact ⟨⟨by omega, by omega⟩, q (c1.go (by omega) (by omega) (by omega))⟩
  have main : Xi (d + 1) q5_readBehind 36 [some (zr 5), some (zi (zAr S)), none, none] [] M Q := by
    refine B5_readBehind_36 _ h.1.1 hR ((s_kindOf (by omega) h.1.1 hA).pure ⟨h.1.1, s_tat hT h.1 hR e4 ⟨h.1.1, fun c59 => ?_, fun c59 => ?_⟩⟩)
    · rw [if_neg c59] at q1 q2 q0
      rw [eg]
      have close : ∀ (cl : (tp S.1 = 41 ∧ (gKind (zg S) (zAr S) = 5 ∨ gKind (zg S) (zAr S) = 9)) ∨ (tp S.1 = 93 ∧ (gKind (zg S) (zAr S) = 6 ∨ gKind (zg S) (zAr S) = 7))), Xi (d + 1) q5_readBehind 204 [some (zr 5), none, none, none] [] (sI M 5 5 ((mI M 5 5) - 1)) Q := fun cl => by
        rw [if_neg (by omega), if_pos cl] at q1
        have hop : 1 ≤ S.2.1 := by
          by_cases c : 1 ≤ S.2.1
          · exact c
          · have : gKind (zg S) (zAr S) = -1 := by
              unfold zAr; rw [if_neg c]; unfold gKind; rw [if_neg gHas_n1]
            omega
        have hin := hT.in (p := S.1) (by omega)
        rw [e5]
        exact adv _ _ (h.brk (x := (S.2.1 : Int) - 1) (op := S.2.1 - 1) (by omega) (by omega)) rfl hin fun c => q1 rfl _ c
      have rest : ¬ (tp S.1 = 124 ∧ gKind (zg S) (zAr S) = 5) → Xi (d + 1) q5_readBehind 108 [some (zr 5), none, some (zi (gKind (zg S) (zAr S))), some (zi (tp S.1))] [] M Q := fun c124 => by
        have fin : ¬ ((tp S.1 = 41 ∧ (gKind (zg S) (zAr S) = 5 ∨ gKind (zg S) (zAr S) = 9)) ∨ (tp S.1 = 93 ∧ (gKind (zg S) (zAr S) = 6 ∨ gKind (zg S) (zAr S) = 7))) → Xi (d + 1) q5_readBehind 169 [some (zr 5), none, none, none] [] M Q := fun cl => by
          rw [if_neg c124, if_neg cl] at q2 q0
          have cfs : CF K M0 (sI M 5 7 0) tp n S.1 := ⟨h.1.fr (h.1.1.sI _ _ _) (X := fun q => q = 5) (Fr.refl.sI rfl) (by decide) (by decide) (by rw [mI_sI, if_neg (by omega)]; exact e4) h.1.2.2.2, h.2.2.2.2.2.2.2.1.sI ⟨by omega, by omega⟩, by rw [gG_fr (M := M) (X := fun q => q = 5) (Fr.refl.sI rfl) fun j hj q => by omega, eg]; exact hpi.2.1⟩
          have no : ¬ (S.2.1 = 0 ∧ S.1 = n) → (((mI (sI M 5 7 0) 5 7) = 0 ∨ (mI (sI M 5 7 0) 5 7) = 1) ∧ Q (mI (sI M 5 7 0) 5 7) (sI M 5 7 0)) := fun c => by
            rw [if_neg c] at q0
            rw [mI_sI_eq]
            exact ⟨Or.inl rfl, q0 rfl _ cfs⟩
          have e31 : mI M 3 1 = (n : Int) := h.1.2.1.1
          refine B5_readBehind_169 h.1.1 hR ⟨fun c => no (by omega), fun c => ⟨fun c2 => no (by omega), fun c2 => ?_⟩⟩
          rw [if_pos (show S.2.1 = 0 ∧ S.1 = n by omega)] at q2
          rw [mI_sI_eq]
          exact ⟨Or.inr rfl, q2 rfl _ h rfl⟩
        refine B5_readBehind_108 _ _ h.1.1 hR ⟨fun c41 => ?_, fun c41 => ⟨fun c5 => ?_, fun c5 => ⟨fun c9 => ?_, fun c9 => ?_⟩⟩⟩
        · refine B5_readBehind_138 _ _ h.1.1 hR ⟨fun c93 => fin (by omega), fun c93 => ⟨fun c6 => ?_, fun c6 => ⟨fun c7 => fin (by omega), fun c7 => ?_⟩⟩⟩
          · rw [e5]
            have := close (by omega)
            rw [e5] at this
            exact ⟨⟨by omega, by omega⟩, this⟩
          · rw [e5]
            have := close (by omega)
            rw [e5] at this
            exact ⟨⟨by omega, by omega⟩, this⟩
        · rw [e5]
          have := close (by omega)
          rw [e5] at this
          exact ⟨⟨by omega, by omega⟩, this⟩
        · exact B5_readBehind_138 _ _ h.1.1 hR ⟨fun c93 => fin (by omega), fun c93 => absurd c93 (by omega)⟩
        · rw [e5]
          have := close (by omega)
          rw [e5] at this
          exact ⟨⟨by omega, by omega⟩, this⟩
      refine ⟨fun c => rest (by omega), fun c => ⟨fun c5 => rest (by omega), fun c5 => ?_⟩⟩
      have c124 : tp S.1 = 124 ∧ gKind (zg S) (zAr S) = 5 := by omega
      have hin := hT.in (p := S.1) (by omega)
      rw [if_pos c124] at q1 q0
      refine s_addPart (by omega) h.1.1 hA (by rw [eg]; exact hpi.2.1.1) (fun cg M1 k1 f1 g1 => ⟨k1, fun _ => ?_, fun c => absurd (by decide) c⟩) (fun cg => ⟨h.1.1, fun c => absurd rfl c, fun _ => ?_⟩)
      · rw [eg] at cg g1
        rw [if_pos cg] at q1
        have c1 := h.draft k1 (f1.wide fun q hq => by unfold bk at hq; omega) (P := pPart (zg S) (zAr S)) g1 (PI_draft hpi pPart_2 (pPart_DI hpi.2.1))
        refine cs_before c1 hR fun M2 c2 => ⟨c2.1.1, adv _ _ (c2.due (x := 1)) rfl hin fun c => q1 rfl _ c⟩
      · rw [eg] at cg
        rw [if_neg cg] at q0
        exact q0 rfl M h.cf
    · have c59 := Decidable.not_not.mp c59
      have hin := hT.in (p := S.1) (by omega)
      rw [if_pos c59] at q1
      exact adv _ _ (h.due (x := 1)) rfl hin fun c => q1 rfl _ c
  have har1 : ¬ 1 ≤ S.2.1 → zAr S = -1 := fun c => by unfold zAr; rw [if_neg c]
  have har2 : 1 ≤ S.2.1 → zAr S = mI M 6 (mI M 5 5 - 1).toNat := fun c => by
    unfold zAr
    rw [if_pos c, e5, show ((S.2.1 : Int) - 1).toNat = S.2.1 - 1 by omega]
    exact (h.2.2.1 _ (by omega)).symm
  refine B5_readBehind h.1.1 hR ⟨fun c => ?_, fun c => ⟨fun c2 => absurd c2 (by omega), fun c2 => ⟨⟨by omega, by omega⟩, by omega, by omega, ?_⟩⟩⟩
  · rw [har1 (by omega)] at main; exact main
  · rw [har2 (by omega)] at main; exact main
end CPROG
