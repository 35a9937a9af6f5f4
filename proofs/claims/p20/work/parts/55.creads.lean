/-! the class reads statements as told -/
section CREADS
variable {d : Nat} {K M0 M M' : ZMem} {tp : Nat → Int} {n N : Nat} {S : St}
theorem pPart_6 {P : Pg} {s : Int} (h : ∀ k, 0 ≤ P.1 6 k ∧ P.1 6 k ≤ 6) (k : Nat) : 0 ≤ (pPart P s).1 6 k ∧ (pPart P s).1 6 k ≤ 6 := by
  unfold pPart
  split
  · rename_i c
    rw [pU_at]
    have := h s.toNat
    split
    · omega
    · exact h k
  · exact h k
theorem pPart_2 {P : Pg} {s : Int} : (pPart P s).2 = P.2 := by unfold pPart; split <;> rfl
theorem pDet_2 {P : Pg} {s x : Int} : (pDet P s x).2 = P.2 := by unfold pDet; split <;> rfl
theorem pPart_DI {P : Pg} {s : Int} (h : DI P) : DI (pPart P s) := by
  obtain ⟨d1, d2, d3, d4, d5, d6⟩ := h
  have ej : ∀ j k, j ≠ 6 → (pPart P s).1 j k = P.1 j k := fun j k hj => by
    unfold pPart
    split
    · rw [pU_at, if_neg (by omega)]
    · rfl
  refine ⟨pPart_6 d1, fun k => by rw [ej 5 k (by decide)]; exact d2 k, fun k => by rw [ej 2 k (by decide)]; exact d3 k, fun k => by rw [ej 1 k (by decide)]; exact d4 k, by rw [pPart_2]; exact d5, by rw [pPart_2]; exact d6⟩
theorem pDet_DI {P : Pg} {s x : Int} (h : DI P) (hx : -1000 ≤ x ∧ x ≤ 1000) : DI (pDet P s x) := by
  obtain ⟨d1, d2, d3, d4, d5, d6⟩ := h
  have ej : ∀ j k, j ≠ 1 → (pDet P s x).1 j k = P.1 j k := fun j k hj => by
    unfold pDet
    split
    · rw [pU_at, if_neg (by omega)]
    · rfl
  refine ⟨fun k => by rw [ej 6 k (by decide)]; exact d1 k, fun k => by rw [ej 5 k (by decide)]; exact d2 k, fun k => by rw [ej 2 k (by decide)]; exact d3 k, fun k => ?_, by rw [pDet_2]; exact d5, by rw [pDet_2]; exact d6⟩
  unfold pDet
  split
  · rw [pU_at]
    split
    · exact hx
    · exact d4 k
  · exact d4 k
theorem PI_draft (h : PI S) {P : Pg} {due : Int} (e : P.2 = (zg S).2) (h6 : DI P) : PI (S.1, S.2.1, S.2.2.1, S.2.2.2.1, due, P) := by
  obtain ⟨b1, b2, b3, b4, b5, b6⟩ := h
  have e1 : P.2.1 = (zg S).2.1 := congrArg (fun x => x.1) e
  have e2 : P.2.2.1 = (zg S).2.2.1 := congrArg (fun x => x.2.1) e
  have e3 : P.2.2.2 = (zg S).2.2.2 := congrArg (fun x => x.2.2) e
  refine ⟨?_, h6, ?_, ?_, b5, ?_⟩
  · show 0 ≤ P.2.2.2 ∧ P.2.2.2 ≤ 40
    rw [e3]; exact b1
  · show 0 ≤ P.2.1.2.2.2.1 ∧ P.2.1.2.2.2.1 ≤ (S.1 : Int)
    rw [e1]; exact b3
  · show 0 ≤ P.2.1.2.2.2.2 ∧ P.2.1.2.2.2.2 ≤ (S.1 : Int)
    rw [e1]; exact b4
  · show P.2.2.1.2.2.2.2 = 0
    rw [e2]; exact b6
theorem cs_brk (hT : Tp tp n) (h : CRs K M0 M tp n S) (hR : ReaderAt K 5) (hd : 3 ≤ d) {s : Int} {Q : Int → ZMem → Prop} (hp : S.1 < n) (q1 : (zOpen S s).1 = 1 → ∀ M', CRs K M0 M' tp n (zOpen S s).2 → Q 1 M') (q0 : (zOpen S s).1 ≠ 1 → ∀ M', CF K M0 M' tp n (zOpen S s).2.1 → Q 0 M') : Ci d q5_openBracket [zr 5, zi s] M Q := by
  obtain ⟨d, rfl⟩ : ∃ e, d = e + 1 := ⟨d - 1, by omega⟩
  have hn := hT.1
  have e5 := h.2.1
  have hpi := h.pi
  have hA : ProgramAt K 8 := hR.2.2.2.2.2.2.2.2
  have eg := h.2.2.2.2.2.2.1
  unfold zOpen at q1 q0
  refine B5_openBracket s h.1.1 hR ⟨fun c => absurd c (by omega), fun _ => ⟨fun c => ?_, fun c => ?_⟩⟩
  · have c6 : S.2.1 < 6 := by omega
    rw [if_pos c6] at q1
    have fin : ∀ M1, KW K M1 → Fr (fun q => 8 ≤ q ∧ q < 25) M M1 → gG M1 8 = pPart (gG M 8) s → KW K M1 ∧ (0 ≤ (mI M1 5 5)) ∧ ((mI M1 5 5) < 6) ∧ (inR ((mI (sI M1 6 ((mI M1 5 5).toNat) s) 5 5) + 1)) ∧ Cv d q5_setBefore [zr 5, zi (-1)] (sI (sI M1 6 ((mI M1 5 5).toNat) s) 5 5 ((mI (sI M1 6 ((mI M1 5 5).toNat) s) 5 5) + 1)) (fun M10 => KW K M10 ∧ (inR ((mI M10 5 4) + 1)) ∧ Q 1 (sI (sI M10 5 4 ((mI M10 5 4) + 1)) 5 6 1)) := fun M1 k1 f1 g1 => by
      have e51 : mI M1 5 5 = (S.2.1 : Int) := by rw [f1.i (by omega)]; exact e5
      have e55 : mI (sI M1 6 S.2.1 s) 5 5 = (S.2.1 : Int) := by rw [mI_sI, if_neg (by omega), e51]
      rw [e51, Int.toNat_natCast, e55]
      have c1 := h.draft k1 f1 (P := pPart (zg S) s) (by rw [g1, eg]) (PI_draft hpi pPart_2 (pPart_DI hpi.2.1))
      have c2 := c1.opened (x := s) (j := S.2.1) c6
      have c3 := c2.brk (x := (S.2.1 : Int) + 1) (op := S.2.1 + 1) (by omega) (by omega)
      refine ⟨k1, by omega, by omega, ⟨by omega, by omega⟩, cs_before c3 hR fun M10 c10 => ⟨c10.1.1, ?_⟩⟩
      have e4 := c10.1.2.2.1
      have e4 : mI M10 5 4 = (S.1 : Int) := e4
      rw [e4]
      exact ⟨⟨by omega, by omega⟩, q1 rfl _ ((c10.go (x := (S.1 : Int) + 1) (p' := S.1 + 1) (by omega) (by show S.1 ≤ S.1 + 1; omega) (by omega)).due (x := 1))⟩
    refine s_addPart (by omega) h.1.1 hA (by rw [eg]; exact hpi.2.1.1) (fun c2 M1 k1 f1 g1 => fin M1 k1 (f1.wide fun q hq => by unfold bk at hq; omega) g1) (fun c2 => fin M h.1.1 Fr.refl ?_)
    unfold pPart
    rw [if_neg c2]
  · rw [if_neg (by omega)] at q0
    exact q0 (show (0 : Int) ≠ 1 by decide) M h.cf
theorem gG_form (F : fx 17 M M') : gG M' 8 = ((gG M 8).1, gF M' 17, (gG M 8).2.2) := by
  have F' := F.1
  show (_, _, _, _) = (_, _, _, _)
  rw [gF_fr (o := 8 + 13) F' fun i hi q => by unfold bk at q; omega, F'.i (a := 8) (by unfold bk; omega)]
  refine Prod.ext ?_ rfl
  funext i
  show (if i < 7 then tq 0 40 (mI M' (8 + 1 + i)) else if i = 7 then tq 0 240 (mI M' (8 + 8)) else fun _ => 0) = if i < 7 then tq 0 40 (mI M (8 + 1 + i)) else if i = 7 then tq 0 240 (mI M (8 + 8)) else fun _ => 0
  by_cases c7 : i < 7
  · rw [if_pos c7, if_pos c7]
    exact tq_congr fun t _ _ => F'.i (by unfold bk; omega) t
  · rw [if_neg c7, if_neg c7]
    by_cases c8 : i = 7
    · rw [if_pos c8, if_pos c8]
      exact tq_congr fun t _ _ => F'.i (by unfold bk; omega) t
    · rw [if_neg c8, if_neg c8]
theorem ee_b (hT : Tp tp n) (hN : n < N) {p : Nat} (hp : p ≤ n) : p ≤ (ee tp N p).2.1 ∧ (ee tp N p).2.1 ≤ n ∧ (ee tp N p).2.2.length ≤ (ee tp N p).2.1 - p ∧ ((ee tp N p).1 = 0 ∨ (ee tp N p).1 = 1) ∧ ((ee tp N p).1 = 1 → p < (ee tp N p).2.1) := by
  obtain ⟨a1, a2, a3, l', a4, a5, a6⟩ := er_b hT hN N p 0 [] hp (by omega)
  refine ⟨a1, a2, ?_, a3, fun q => (a6 q).2.1⟩
  unfold ee
  rw [a4, List.nil_append]
  exact a5
theorem zForm_pi (hT : Tp tp n) (hN : n < N) (h : PI S) (hp : S.1 ≤ n) (he : (zForm tp N S).1 = 1) (hF : FA (fApp (fSt (zg S).2.1) (ee tp N S.1).2.2)) : PI (zForm tp N S).2 := by
  obtain ⟨b1, b2, b3, b4, b5, b6⟩ := h
  obtain ⟨a1, a2, a3, a4, a5⟩ := ee_b hT hN hp
  have a5 := a5 he
  obtain ⟨i1, i2, i3, i4, i5⟩ := fApp_f (fSt (zg S).2.1) b3.1 (ee tp N S.1).2.2
  have s1 : (fSt (zg S).2.1).2.2.2.1 = (zg S).2.1.2.2.2.1 := rfl
  have s2 : (fSt (zg S).2.1).2.2.2.2 = (zg S).2.1.2.2.2.2 + 1 := rfl
  refine ⟨b1, ⟨b2.1, b2.2.1, b2.2.2.1, b2.2.2.2.1, hF, b2.2.2.2.2.2⟩, ?_, ?_, b5, b6⟩
  · show 0 ≤ (fApp (fSt (zg S).2.1) (ee tp N S.1).2.2).2.2.2.1 ∧ (fApp (fSt (zg S).2.1) (ee tp N S.1).2.2).2.2.2.1 ≤ ((ee tp N S.1).2.1 : Int)
    rw [i1, s1]; omega
  · show 0 ≤ (fApp (fSt (zg S).2.1) (ee tp N S.1).2.2).2.2.2.2 ∧ (fApp (fSt (zg S).2.1) (ee tp N S.1).2.2).2.2.2.2 ≤ ((ee tp N S.1).2.1 : Int)
    rw [i2, s2]; omega
theorem cs_form (hT : Tp tp n) (hN : n < N) (h : CRs K M0 M tp n S) (hR : ReaderAt K 5) (hd : 3 ≤ d) {Q : Int → ZMem → Prop} (q1 : (zForm tp N S).1 = 1 → ∀ M', CRs K M0 M' tp n (zForm tp N S).2 → Q 1 M') (q0 : (zForm tp N S).1 ≠ 1 → ∀ M', CF K M0 M' tp n (zForm tp N S).2.1 → Q 0 M') : Ci d q5_readFormula [zr 5, zr 17] M Q := by
  have hpi := h.pi
  have hA : FormulasAt K 17 := hR.2.2.2.2.2.2.2.2.2.2.2.2.2.2.2.2.2.2.2.2.2.2.2.2.2.2.2.1
  have eg := h.2.2.2.2.2.2.1
  have ef : gF M 17 = (zg S).2.1 := by rw [← eg]; rfl
  have hp := h.1.2.2.2
  refine s_formula hT hN hR (by decide) hA hd hp h.1 (by rw [ef]; exact hpi.2.2.1.1) (by rw [ef]; exact hpi.2.2.1.2) (by rw [ef]; exact hpi.2.2.2.1.1) (by rw [ef]; exact hpi.2.2.2.1.2) (by rw [ef]; exact hpi.2.1.2.2.2.2.1) (fun k1 M1 c1 f1 g1 gA => q1 k1 M1 ?_) (fun k1 M1 c1 f1 gA => q0 k1 M1 ⟨c1, h.2.2.2.2.2.2.2.1.trans (f1.1.wide fun q hq => by unfold bk at hq; omega), by rw [gG_form f1, eg]; exact ⟨hpi.2.1.1, hpi.2.1.2.1, hpi.2.1.2.2.1, hpi.2.1.2.2.2.1, gA, hpi.2.1.2.2.2.2.2⟩⟩)
  obtain ⟨a1, a2, a3, a4, a5, a6, a7, a8, a9⟩ := h
  have F := f1.1
  refine ⟨c1, by rw [f1.2 5 (by decide)]; exact a2, fun k hk => by rw [F.i (by unfold bk; omega)]; exact a3 k hk, fun k hk => by rw [F.i (by unfold bk; omega)]; exact a4 k hk, by rw [f1.2 6 (by decide)]; exact a5, by rw [f1.2 7 (by decide)]; exact a6, ?_, a8.trans (F.wide fun q hq => by unfold bk at hq; omega), zForm_pi hT hN a9 hp k1 (by rw [← ef, ← g1]; exact gA)⟩
  rw [gG_form f1, g1, ef, a7]
  rfl
theorem cs_sign (hT : Tp tp n) (h : CRs K M0 M tp n S) (hR : ReaderAt K 5) (hd : 1 ≤ d) {c : Int} (hc : 1 ≤ c) {Q : Int → ZMem → Prop} (q1 : (zSign tp c S).1 = 1 → ∀ M', CRs K M0 M' tp n (zSign tp c S).2 → Q 1 M') (q0 : (zSign tp c S).1 ≠ 1 → ∀ M', CF K M0 M' tp n (zSign tp c S).2.1 → Q 0 M') : Ci d q5_readSign [zr 5, zi c] M Q := by
  obtain ⟨d, rfl⟩ : ∃ e, d = e + 1 := ⟨d - 1, by omega⟩
  have hn := hT.1
  unfold zSign at q1 q0
  refine B5_readSign c h.1.1 hR (s_tat hT h.1 hR h.1.2.2.1 ⟨h.1.1, fun c2 => ?_, fun c2 => ?_⟩)
  · have hin := hT.in (p := S.1) (by omega)
    have e4 := h.1.2.2.1
    rw [if_pos c2] at q1
    rw [e4]
    exact ⟨⟨by omega, by omega⟩, q1 rfl _ (h.go (by omega) (by omega) (by omega))⟩
  · rw [if_neg c2] at q0
    exact q0 (show (0 : Int) ≠ 1 by decide) M h.cf
theorem cs_among (hT : Tp tp n) (hN : n < N) (hR : ReaderAt K 5) {Q : Int → ZMem → Prop} : ∀ (j i : Nat) (S : St) (M : ZMem), i + j = 6 → CRs K M0 M tp n S → ((zAmong tp N j S).1 = 1 → ∀ M', CRs K M0 M' tp n (zAmong tp N j S).2 → Q 1 M') → ((zAmong tp N j S).1 ≠ 1 → ∀ M', CF K M0 M' tp n (zAmong tp N j S).2.1 → Q 0 M') → Xi (d + 3 + 1) q5_readChoose 85 [some (zr 5), none, some (zi i)] [] M Q
  | 0, i, S, M, hij, h, q1, q0 => by
    refine B5_readChoose_85 i h.1.1 hR ⟨fun _ => ?_, fun c => absurd (show (6 : Int) ≤ i by omega) c⟩
    exact q0 (show (0 : Int) ≠ 1 by decide) M h.cf
  | j + 1, i, S, M, hij, h, q1, q0 => by
    have hn := hT.1
    rw [zAmong] at q1 q0
    unfold zThen at q1 q0
    refine B5_readChoose_85 i h.1.1 hR ⟨fun c => absurd c (by omega), fun _ => cs_form hT hN h hR (by omega) (fun k1 M1 c1 => ⟨c1.1.1, fun _ => ?_, fun c => absurd (by decide) c⟩) (fun k1 M1 c1 => ⟨c1.1.1, fun c => absurd rfl c, fun _ => ?_⟩)⟩
    · rw [if_pos k1] at q1 q0
      dsimp only at q1 q0
      generalize (zForm tp N S).2 = S1 at *
      refine s_tat hT c1.1 hR c1.1.2.2.1 ⟨c1.1.1, fun c2 => ?_, fun c2 => ?_⟩
      · rw [if_pos c2] at q1 q0
        have hin := hT.in (p := S1.1) (by omega)
        refine ⟨⟨by omega, by omega⟩, fun c3 => ?_, fun c3 => ?_⟩
        · have hj : j = 0 := by omega
          rw [if_pos hj] at q1 q0
          refine ⟨⟨by omega, by omega⟩, cs_among hT hN hR j (i + 1) S1 M1 (by omega) c1 q1 q0⟩
        · have hj : j ≠ 0 := by omega
          rw [if_neg hj] at q1 q0
          have e4 := c1.1.2.2.1
          rw [e4]
          refine ⟨⟨by omega, by omega⟩, ⟨by omega, by omega⟩, cs_among hT hN hR j (i + 1) _ _ (by omega) (c1.go (p' := S1.1 + 1) (by omega) (by omega) (by omega)) q1 q0⟩
      · rw [if_neg c2] at q1 q0
        exact cs_sign hT c1 hR (by omega) (by decide) (fun k M2 c => ⟨c.1.1, Or.inr rfl, q1 k M2 c⟩) (fun k M2 c => ⟨c.1.1, Or.inl rfl, q0 k M2 c⟩)
    · rw [if_neg k1] at q0
      exact q0 k1 M1 c1
theorem cs_choose (hT : Tp tp n) (hN : n < N) (h : CRs K M0 M tp n S) (hR : ReaderAt K 5) (hd : 4 ≤ d) (h40 : zsz S < 40) {v : Int} (hv : 0 ≤ v ∧ v ≤ 10) {Q : Int → ZMem → Prop} (q1 : (zChoose tp N S v).1 = 1 → ∀ M', CRs K M0 M' tp n (zChoose tp N S v).2 → Q 1 M') (q0 : (zChoose tp N S v).1 ≠ 1 → ∀ M', CF K M0 M' tp n (zChoose tp N S v).2.1 → Q 0 M') : Ci d q5_readChoose [zr 5, zi v] M Q := by
  obtain ⟨d, rfl⟩ : ∃ e, d = e + 3 + 1 := ⟨d - 4, by omega⟩
  have hn := hT.1
  unfold zChoose at q1 q0
  refine B5_readChoose v h.1.1 hR (s_tat hT h.1 hR h.1.2.2.1 ⟨h.1.1, fun c => ?_, fun c => ?_⟩)
  · have hin := hT.in (p := S.1) (by omega)
    rw [if_pos c] at q1 q0
    refine cs_add h hR (by omega) h40 (by have := h.1.2.2.2; omega) (by omega) fun M1 c1 => ⟨c1.1.1, ?_⟩
    have e4 : mI M1 5 4 = (S.1 : Int) := c1.1.2.2.1
    rw [e4]
    exact ⟨⟨by omega, by omega⟩, cs_among hT hN hR 6 0 _ _ rfl (c1.go (p' := S.1 + 1) (by omega) (by show S.1 ≤ S.1 + 1; omega) (by omega)) q1 q0⟩
  · rw [if_neg c] at q1 q0
    unfold zThen at q1 q0
    refine cs_add h hR (by omega) h40 (by have := h.1.2.2.2; omega) (by omega) fun M1 c1 => ⟨c1.1.1, cs_form hT hN c1 hR (by omega) (fun k1 M2 c2 => ⟨c2.1.1, fun c => absurd c (by decide), fun _ => ?_⟩) (fun k1 M2 c2 => ⟨c2.1.1, fun _ => ?_, fun c => absurd rfl c⟩)⟩
    · rw [if_pos k1] at q1 q0
      dsimp only at q1 q0
      refine cs_sign hT c2 hR (by omega) (by decide) (fun k2 M3 c3 => ⟨c3.1.1, fun c => absurd c (by decide), fun _ => ?_⟩) (fun k2 M3 c3 => ⟨c3.1.1, fun _ => ?_, fun c => absurd rfl c⟩)
      · rw [if_pos k2] at q1 q0
        exact cs_form hT hN c3 hR (by omega) (fun k3 M4 c4 => ⟨c4.1.1, fun c => absurd c (by decide), fun _ => q1 k3 M4 c4⟩) (fun k3 M4 c4 => ⟨c4.1.1, fun _ => q0 k3 M4 c4, fun c => absurd rfl c⟩)
      · rw [if_neg k2] at q0
        exact q0 k2 M3 c3
    · rw [if_neg k1] at q0
      exact q0 k1 M2 c2
theorem cs_test (hT : Tp tp n) (hN : n < N) (h : CRs K M0 M tp n S) (hR : ReaderAt K 5) (hd : 4 ≤ d) (h40 : zsz S < 40) {Q : Int → ZMem → Prop} (q1 : (zTest tp N S).1 = 1 → ∀ M', CRs K M0 M' tp n (zTest tp N S).2 → Q 1 M') (q0 : (zTest tp N S).1 ≠ 1 → ∀ M', CF K M0 M' tp n (zTest tp N S).2.1 → Q 0 M') : Ci d q5_readTest [zr 5] M Q := by
  obtain ⟨d, rfl⟩ : ∃ e, d = e + 3 + 1 := ⟨d - 4, by omega⟩
  have hn := hT.1
  have hA : ProgramAt K 8 := hR.2.2.2.2.2.2.2.2
  unfold zTest at q1 q0
  have sec : zV (tp S.1) ∨ dg (tp S.1) ∨ tp S.1 = 45 → ∀ (M1 : ZMem) (x14 : Int), CRs K M0 M1 tp n (zForm tp N (zAdd S 2 0)).2 → (zForm tp N (zAdd S 2 0)).1 = 1 → ∀ c, c = tp (zForm tp N (zAdd S 2 0)).2.1 → zSg c → Cv (d + 3) q4_setDetail [zr 8, zi (zsz S), zi c] M1 (fun M21 => KW K M21 ∧ (inR ((mI M21 5 4) + 1)) ∧ Ci (d + 3) q5_readFormula [zr 5, zr 17] (sI M21 5 4 ((mI M21 5 4) + 1)) (fun x27 M26 => KW K M26 ∧ (x27 = 0 ∨ x27 = 1) ∧ Q x27 M26)) := fun cl M1 x14 c1 k1 c hc hs => by
    rw [if_pos cl] at q1 q0
    unfold zThen at q1 q0
    rw [if_pos k1] at q1 q0
    dsimp only at q1 q0
    generalize (zForm tp N (zAdd S 2 0)).2 = S1 at *
    rw [← hc] at q1 q0
    rw [if_pos hs] at q1 q0
    have hin := hT.in (p := S1.1) (by omega)
    refine s_setDet (by omega) c1.1.1 hA fun M2 k2 f2 g2 => ⟨k2, ?_⟩
    have f2' : Fr (fun q => 8 ≤ q ∧ q < 25) M1 M2 := f2.wide fun q hq => by unfold bk at hq; omega
    have c2 := c1.draft k2 f2' (P := pDet (zg S1) (zsz S) c) (by rw [g2, c1.2.2.2.2.2.2.1]) (PI_draft c1.pi pDet_2 (pDet_DI c1.pi.2.1 (by omega)))
    · have e4 : mI M2 5 4 = (S1.1 : Int) := c2.1.2.2.1
      rw [e4]
      refine ⟨⟨by omega, by omega⟩, ?_⟩
      have c3 := c2.go (x := (S1.1 : Int) + 1) (p' := S1.1 + 1) (by omega) (by show S1.1 ≤ S1.1 + 1; omega) (by omega)
      exact cs_form hT hN c3 hR (by omega) (fun k3 M4 c4 => ⟨c4.1.1, Or.inr rfl, q1 k3 M4 c4⟩) (fun k3 M4 c4 => ⟨c4.1.1, Or.inl rfl, q0 k3 M4 c4⟩)
  have main : zV (tp S.1) ∨ dg (tp S.1) ∨ tp S.1 = 45 → Ci (d + 3) q5_addStatement [zr 5, zi 2, zi 0] M (fun x10 M9 => KW K M9 ∧ Ci (d + 3) q5_readFormula [zr 5, zr 17] M9 (fun x14 M13 => KW K M13 ∧ ((x14 ≠ 0 → (Ci (d + 3) q7_at [zr 3, zi (mI M13 5 4)] M13 (fun x18 M17 => KW K M17 ∧ ((x18 = 60 → (Cv (d + 3) q4_setDetail [zr 8, zi x10, zi x18] M17 (fun M21 => KW K M21 ∧ (inR ((mI M21 5 4) + 1)) ∧ Ci (d + 3) q5_readFormula [zr 5, zr 17] (sI M21 5 4 ((mI M21 5 4) + 1)) (fun x27 M26 => KW K M26 ∧ (x27 = 0 ∨ x27 = 1) ∧ Q x27 M26)))) ∧ (¬ (x18 = 60) → ((x18 = 61 → (Cv (d + 3) q4_setDetail [zr 8, zi x10, zi x18] M17 (fun M31 => KW K M31 ∧ (inR ((mI M31 5 4) + 1)) ∧ Ci (d + 3) q5_readFormula [zr 5, zr 17] (sI M31 5 4 ((mI M31 5 4) + 1)) (fun x37 M36 => KW K M36 ∧ (x37 = 0 ∨ x37 = 1) ∧ Q x37 M36)))) ∧ (¬ (x18 = 61) → ((x18 = 62 → (Cv (d + 3) q4_setDetail [zr 8, zi x10, zi x18] M17 (fun M41 => KW K M41 ∧ (inR ((mI M41 5 4) + 1)) ∧ Ci (d + 3) q5_readFormula [zr 5, zr 17] (sI M41 5 4 ((mI M41 5 4) + 1)) (fun x47 M46 => KW K M46 ∧ (x47 = 0 ∨ x47 = 1) ∧ Q x47 M46)))) ∧ (¬ (x18 = 62) → ((x18 = 35 → (Cv (d + 3) q4_setDetail [zr 8, zi x10, zi x18] M17 (fun M51 => KW K M51 ∧ (inR ((mI M51 5 4) + 1)) ∧ Ci (d + 3) q5_readFormula [zr 5, zr 17] (sI M51 5 4 ((mI M51 5 4) + 1)) (fun x57 M56 => KW K M56 ∧ (x57 = 0 ∨ x57 = 1) ∧ Q x57 M56)))) ∧ (¬ (x18 = 35) → (Q 0 M17)))))))))))) ∧ (¬ (x14 ≠ 0) → (Q 0 M13))))) := fun cl => by
    have sec := sec cl
    rw [if_pos cl] at q1 q0
    unfold zThen at q1 q0
    refine cs_add h hR (by omega) h40 (by have := h.1.2.2.2; omega) (by omega) fun M1 c1 => ⟨c1.1.1, cs_form hT hN c1 hR (by omega) (fun k1 M2 c2 => ⟨c2.1.1, fun _ => ?_, fun c => absurd (by decide) c⟩) (fun k1 M2 c2 => ⟨c2.1.1, fun c => absurd rfl c, fun _ => ?_⟩)⟩
    · rw [if_pos k1] at q1 q0
      dsimp only at q1 q0
      have sec := fun c hc hs => sec M2 1 c2 k1 c hc hs
      refine s_tat hT c2.1 hR c2.1.2.2.1 ⟨c2.1.1, fun e1 => sec _ rfl (Or.inl e1), fun e1 => ⟨fun e2 => sec _ rfl (Or.inr (Or.inl e2)), fun e2 => ⟨fun e3 => sec _ rfl (Or.inr (Or.inr (Or.inl e3))), fun e3 => ⟨fun e4 => sec _ rfl (Or.inr (Or.inr (Or.inr e4))), fun e4 => ?_⟩⟩⟩⟩
      have hns : ¬ zSg (tp (zForm tp N (zAdd S 2 0)).2.1) := fun q => by
        rcases q with q | q | q | q
        · exact e1 q
        · exact e2 q
        · exact e3 q
        · exact e4 q
      rw [if_neg hns] at q0
      exact q0 (show (0 : Int) ≠ 1 by decide) M2 c2.cf
    · rw [if_neg k1] at q0
      exact q0 k1 M2 c2
  refine B5_readTest h.1.1 hR (s_tat hT h.1 hR h.1.2.2.1 ⟨h.1.1, s_isVar h.1.1 (fun c => ⟨h.1.1, fun _ => main (Or.inl c), fun c2 => absurd (by decide) c2⟩) (fun c => ⟨h.1.1, fun c2 => absurd rfl c2, fun _ => s_isDig h.1.1 (fun c2 => ⟨h.1.1, fun _ => main (Or.inr (Or.inl c2)), fun c3 => absurd (by decide) c3⟩) (fun c2 => ⟨h.1.1, fun c3 => absurd rfl c3, fun _ => ⟨fun c3 => main (Or.inr (Or.inr c3)), fun c3 => ?_⟩⟩)⟩)⟩)
  have hno : ¬ (zV (tp S.1) ∨ dg (tp S.1) ∨ tp S.1 = 45) := fun q => by
    rcases q with q | q | q
    · exact c q
    · exact c2 q
    · exact c3 q
  rw [if_neg hno] at q0
  exact q0 (show (0 : Int) ≠ 1 by decide) M h.cf
end CREADS
