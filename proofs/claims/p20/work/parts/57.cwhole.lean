/-! the class reads a program, a cost -/
theorem er_01 {tp : Nat → Int} {N : Nat} : ∀ (f p : Nat) (j : Int) (l : FL), (er tp N f p j l).1 = 0 ∨ (er tp N f p j l).1 = 1
  | 0, p, j, l => Or.inl rfl
  | f + 1, p, j, l => by
    rw [er]
    split
    · split
      · exact Or.inr rfl
      · exact er_01 f _ _ _
    · exact Or.inl rfl
theorem zForm_01 {tp : Nat → Int} {N : Nat} {S : St} : (zForm tp N S).1 = 0 ∨ (zForm tp N S).1 = 1 := er_01 _ _ _ _
theorem zOpen_01 {S : St} {s : Int} : (zOpen S s).1 = 0 ∨ (zOpen S s).1 = 1 := by
  unfold zOpen; split
  · exact Or.inr rfl
  · exact Or.inl rfl
theorem zSign_01 {tp : Nat → Int} {c : Int} {S : St} : (zSign tp c S).1 = 0 ∨ (zSign tp c S).1 = 1 := by
  unfold zSign; split
  · exact Or.inr rfl
  · exact Or.inl rfl
theorem zThen_01 {r : Int × St} {k : St → Int × St} (h1 : r.1 = 0 ∨ r.1 = 1) (h2 : (k r.2).1 = 0 ∨ (k r.2).1 = 1) : (zThen r k).1 = 0 ∨ (zThen r k).1 = 1 := by
  unfold zThen; split
  · exact h2
  · exact h1
theorem zAmong_01 {tp : Nat → Int} {N : Nat} : ∀ (j : Nat) (S : St), (zAmong tp N j S).1 = 0 ∨ (zAmong tp N j S).1 = 1
  | 0, S => Or.inl rfl
  | j + 1, S => by
    rw [zAmong]
    refine zThen_01 zForm_01 ?_
    split
    · exact zAmong_01 j _
    · exact zSign_01
theorem zStmt_01 {tp : Nat → Int} {N : Nat} {S : St} : (zStmt tp N S).1 = 0 ∨ (zStmt tp N S).1 = 1 := by
  unfold zStmt
  split
  · exact Or.inl rfl
  · split
    · exact zOpen_01
    · split
      · exact zOpen_01
      · split
        · split
          · exact zOpen_01
          · exact Or.inl rfl
        · split
          · exact Or.inr rfl
          · split
            · exact zOpen_01
            · split
              · exact zForm_01
              · split
                · unfold zChoose
                  split
                  · exact zAmong_01 _ _
                  · exact zThen_01 zForm_01 (zThen_01 zSign_01 zForm_01)
                · unfold zTest
                  split
                  · refine zThen_01 zForm_01 ?_
                    split
                    · exact zForm_01
                    · exact Or.inl rfl
                  · exact Or.inl rfl
theorem zBehind_012 {tp : Nat → Int} {n : Nat} {S : St} : (zBehind tp n S).1 = 0 ∨ (zBehind tp n S).1 = 1 ∨ (zBehind tp n S).1 = 2 := by
  unfold zBehind
  split
  · exact Or.inr (Or.inl rfl)
  · split
    · split
      · exact Or.inr (Or.inl rfl)
      · exact Or.inl rfl
    · split
      · exact Or.inr (Or.inl rfl)
      · split
        · exact Or.inr (Or.inr rfl)
        · exact Or.inl rfl
def zStep (tp : Nat → Int) (N n : Nat) (S : St) : Int × St := if S.2.2.2.2.1 = 0 then zBehind tp n S else zStmt tp N S
theorem zGo_s {tp : Nat → Int} {N n k : Nat} {S : St} : zGo tp N n (k + 1) S = if (zStep tp N n S).1 = 1 then zGo tp N n k (zStep tp N n S).2 else if (zStep tp N n S).1 = 2 then (-1, (zStep tp N n S).2) else ((zStep tp N n S).2.1, (zStep tp N n S).2) := rfl
section CWHOLE
variable {d : Nat} {K M0 M M' : ZMem} {tp : Nat → Int} {n N : Nat} {S : St}
theorem s_prog_loop (hT : Tp tp n) (hN : n < N) (hR : ReaderAt K 5) {Q : Int → ZMem → Prop} : ∀ (k r : Nat) (S : St) (M : ZMem), r + k = 151 → CRs K M0 M tp n S →
    ((zGo tp N n k S).1 = -1 → ∀ M' M1, CRs K M0 M1 tp n (zGo tp N n k S).2 → M' = sI M1 5 7 1 → Q (-1) M') →
    ((zGo tp N n k S).1 ≠ -1 → ∀ M' p, CF K M0 M' tp n p → (zGo tp N n k S).1 = p → Q p M') → Xi (d + 5 + 1) q5_readProgram 34 [some (zr 5), some (zi r), none] [] M Q
  | 0, r, S, M, hr, h, q1, q0 => by
    have e4 := h.1.2.2.1
    have e7 := h.2.2.2.2.2.1
    have er : zGo tp N n 0 S = ((S.1 : Int), S) := rfl
    rw [er] at q0
    refine B5_readProgram_34 r h.1.1 hR ⟨fun _ => ⟨fun _ => ?_, fun c => absurd e7 c⟩, fun c => absurd (show (150 : Int) < r by omega) c⟩
    rw [e4]
    exact q0 (show (S.1 : Int) ≠ -1 by omega) M S.1 h.cf rfl
  | k + 1, r, S, M, hr, h, q1, q0 => by
    have e7 := h.2.2.2.2.2.1
    have e6 := h.2.2.2.2.1
    rw [zGo_s] at q1 q0
    have bad : (zStep tp N n S).1 = 0 → ∀ M', CF K M0 M' tp n (zStep tp N n S).2.1 → Q (mI M' 5 4) M' := fun c M' cf => by
      rw [if_neg (by omega), if_neg (by omega)] at q0
      rw [cf.1.2.2.1]
      exact q0 (show ((zStep tp N n S).2.1 : Int) ≠ -1 by omega) M' _ cf rfl
    have good : (zStep tp N n S).1 = 1 → ∀ M', CRs K M0 M' tp n (zStep tp N n S).2 → Xi (d + 5 + 1) q5_readProgram 34 [some (zr 5), some (zi ((r : Int) + 1)), none] [] M' Q := fun c M' c1 => by
      rw [if_pos c] at q1 q0
      exact s_prog_loop hT hN hR k (r + 1) _ M' (by omega) c1 q1 q0
    refine B5_readProgram_34 r h.1.1 hR ⟨fun c => absurd c (by omega), fun _ => ⟨fun c => absurd e7 c, fun _ => ⟨fun cd => ?_, fun cd => ?_⟩⟩⟩
    · rw [e6] at cd
      have es : zStep tp N n S = zBehind tp n S := by unfold zStep; rw [if_pos cd]
      rw [es] at bad good q1
      refine cs_behind hT h hR (by omega) (fun c M1 c1 => ⟨c1.1.1, fun _ => ⟨⟨by omega, by omega⟩, good c M1 c1⟩, fun c2 => absurd (by decide) c2⟩) (fun c M1 c1 e1 => ?_) (fun c M1 c1 => ⟨c1.1.1, fun c2 => absurd rfl c2, fun _ => bad c M1 c1⟩)
      subst e1
      rw [if_neg (by omega), if_pos c] at q1
      refine ⟨h.1.1, fun _ => ⟨⟨by omega, by omega⟩, ?_⟩, fun c2 => absurd (by decide) c2⟩
      have r7 : mI (sI M 5 7 1) 5 7 = 1 := mI_sI_eq
      have fin : Q (-1) (sI M 5 7 1) := q1 rfl _ M c1 rfl
      refine B5_readProgram_34 _ h.1.1 hR ⟨fun _ => ⟨fun c2 => absurd c2 (by rw [r7]; decide), fun _ => fin⟩, fun _ => ⟨fun _ => ⟨fun c2 => absurd c2 (by rw [r7]; decide), fun _ => fin⟩, fun c2 => absurd (by rw [r7]; decide) c2⟩⟩
    · rw [e6] at cd
      have es : zStep tp N n S = zStmt tp N S := by unfold zStep; rw [if_neg cd]
      rw [es] at bad good
      exact cs_stmt hT hN h hR (by omega) (fun c M1 c1 => ⟨c1.1.1, fun _ => ⟨⟨by omega, by omega⟩, good c M1 c1⟩, fun c2 => absurd (by decide) c2⟩) (fun c M1 c1 => ⟨c1.1.1, fun c2 => absurd rfl c2, fun _ => bad (zStmt_01.resolve_right c) M1 c1⟩)
/-- the draft, cleared -/
def fNo (F : Fm) : Fm := (F.1, F.2.1, F.2.2.1, 0, 0)
def pNo (P : Pg) : Pg := (P.1, fNo P.2.1, fNo P.2.2.1, 0)
theorem s_clear {Q : ZMem → Prop} (hR : ReaderAt K 5) (hK : KW K M) (hd : 1 ≤ d) (q : ∀ M', KW K M' → Fr (fun q => 8 ≤ q ∧ q < 25) M M' → gG M' 8 = pNo (gG M 8) → Q M') : Cv d q4_clear [zr 8] M Q := by
  obtain ⟨d, rfl⟩ : ∃ e, d = e + 1 := ⟨d - 1, by omega⟩
  have hA : ProgramAt K 8 := hR.2.2.2.2.2.2.2.2
  have hF : FormulasAt K 17 := hA.2.2.2.2.2.2.2.2.2.2.2.2.2.2.2.2.2.2.2.1
  have hG : FormulasAt K 21 := hA.2.2.2.2.2.2.2.2.2.2.2.2.2.2.2.2.2.2.2.2
  refine B4_clear 8 hK hA (B1_clear 17 hK hF ⟨hK, B1_clear 21 hK hG ⟨hK, ?_⟩⟩)
  refine q _ ?_ (((((Fr.refl.sI ⟨by omega, by omega⟩).sI ⟨by omega, by omega⟩).sI ⟨by omega, by omega⟩).sI ⟨by omega, by omega⟩).sI ⟨by omega, by omega⟩) ?_
  · exact hK
  · have e21 : ∀ M : ZMem, gG (sI (sI M 21 3 0) 21 4 0) 8 = ((gG M 8).1, (gG M 8).2.1, fNo (gG M 8).2.2.1, (gG M 8).2.2.2) := fun M => by
      have F : Fr (fun q => q = 21) M (sI (sI M 21 3 0) 21 4 0) := (Fr.refl.sI (X := fun q => q = 21) rfl).sI (X := fun q => q = 21) rfl
      show (_, _, _, _) = (_, _, _, _)
      rw [gF_fr (o := 8 + 9) F fun i hi q => by omega, F.i (a := 8) (by decide), show 8 + 13 = 21 from rfl, gF_fs, gF_sz]
      refine Prod.ext ?_ rfl
      funext i
      show (if i < 7 then tq 0 40 (mI _ (8 + 1 + i)) else if i = 7 then tq 0 240 (mI _ (8 + 8)) else fun _ => 0) = if i < 7 then tq 0 40 (mI M (8 + 1 + i)) else if i = 7 then tq 0 240 (mI M (8 + 8)) else fun _ => 0
      by_cases c7 : i < 7
      · rw [if_pos c7, if_pos c7]; exact tq_congr fun t _ _ => F.i (by omega) t
      · rw [if_neg c7, if_neg c7]
        by_cases c8 : i = 7
        · rw [if_pos c8, if_pos c8]; exact tq_congr fun t _ _ => F.i (by omega) t
        · rw [if_neg c8, if_neg c8]
    have e17 : ∀ M : ZMem, gG (sI (sI M 17 3 0) 17 4 0) 8 = ((gG M 8).1, fNo (gG M 8).2.1, (gG M 8).2.2.1, (gG M 8).2.2.2) := fun M => by
      have F : Fr (fun q => q = 17) M (sI (sI M 17 3 0) 17 4 0) := (Fr.refl.sI (X := fun q => q = 17) rfl).sI (X := fun q => q = 17) rfl
      show (_, _, _, _) = (_, _, _, _)
      rw [gF_fr (o := 8 + 13) F fun i hi q => by omega, F.i (a := 8) (by decide), show 8 + 9 = 17 from rfl, gF_fs, gF_sz]
      refine Prod.ext ?_ rfl
      funext i
      show (if i < 7 then tq 0 40 (mI _ (8 + 1 + i)) else if i = 7 then tq 0 240 (mI _ (8 + 8)) else fun _ => 0) = if i < 7 then tq 0 40 (mI M (8 + 1 + i)) else if i = 7 then tq 0 240 (mI M (8 + 8)) else fun _ => 0
      by_cases c7 : i < 7
      · rw [if_pos c7, if_pos c7]; exact tq_congr fun t _ _ => F.i (by omega) t
      · rw [if_neg c7, if_neg c7]
        by_cases c8 : i = 7
        · rw [if_pos c8, if_pos c8]; exact tq_congr fun t _ _ => F.i (by omega) t
        · rw [if_neg c8, if_neg c8]
    rw [e21, e17, gG_sz]
    rfl
theorem pNo_DI {P : Pg} (h : DI P) : DI (pNo P) := h
/-- where reading begins -/
def zS0 (O B : Nat → Int) (P : Pg) : St := (0, 0, O, fup B 0 (-1), 1, pNo P)
theorem s_readProgram (hT : Tp tp n) (hN : n < N) (hR : ReaderAt K 5) {Q : Int → ZMem → Prop} (hd : 6 ≤ d) (hK : KW K M) (ht : mI M 3 1 = n ∧ ∀ k, k < n → mI M 4 k = tp k) (hD : DI (gG M 8))
    (q1 : ∀ O B, (zGo tp N n 151 (zS0 O B (gG M 8))).1 = -1 → ∀ M', KW K M' → gG M' 8 = zg (zGo tp N n 151 (zS0 O B (gG M 8))).2 → Fr (fun q => 5 ≤ q ∧ q < 25) M M' → PI (zGo tp N n 151 (zS0 O B (gG M 8))).2 → Q (-1) M')
    (q0 : ∀ O B, (zGo tp N n 151 (zS0 O B (gG M 8))).1 ≠ -1 → ∀ M' p, CF K M M' tp n p → (zGo tp N n 151 (zS0 O B (gG M 8))).1 = (p : Nat) → Q p M') : Ci d q5_readProgram [zr 5] M Q := by
  obtain ⟨d, rfl⟩ : ∃ e, d = e + 5 + 1 := ⟨d - 6, by omega⟩
  refine B5_readProgram hK hR (s_clear hR hK (by omega) fun M1 k1 f1 g1 => ⟨k1, ?_⟩)
  have f1' : Fr (fun q => 5 ≤ q ∧ q < 25) M M1 := f1.wide fun q hq => ⟨by omega, hq.2⟩
  have F4 : Fr (fun q => q = 5) M1 (sI (sI (sI (sI M1 5 4 0) 5 5 0) 5 6 1) 5 7 0) := (((Fr.refl.sI (X := fun q => q = 5) rfl).sI (X := fun q => q = 5) rfl).sI (X := fun q => q = 5) rfl).sI (X := fun q => q = 5) rfl
  have c0 : CRs K M (sI (sI (sI (sI M1 5 4 0) 5 5 0) 5 6 1) 5 7 0) tp n (0, 0, mI M1 6, mI M1 7, 1, pNo (gG M 8)) := by
    refine ⟨⟨k1, ⟨?_, fun k hk => ?_⟩, ?_, Nat.zero_le _⟩, ?_, fun k _ => F4.i (by decide) k, fun k _ => F4.i (by decide) k, ?_, mI_sI_eq, ?_, f1'.trans (F4.wide fun q hq => by omega), ⟨⟨Int.le_refl 0, by show (0 : Int) ≤ 40; decide⟩, pNo_DI hD, ⟨Int.le_refl 0, Int.le_refl 0⟩, ⟨Int.le_refl 0, Int.le_refl 0⟩, Nat.zero_le _, rfl⟩⟩
    · rw [F4.i (by decide), f1'.i (by omega)]; exact ht.1
    · rw [F4.i (by decide), f1'.i (by omega)]; exact ht.2 k hk
    · rw [mI_sI, if_neg (by omega), mI_sI, if_neg (by omega), mI_sI, if_neg (by omega), mI_sI_eq]; rfl
    · rw [mI_sI, if_neg (by omega), mI_sI, if_neg (by omega), mI_sI_eq]; rfl
    · rw [mI_sI, if_neg (by omega), mI_sI_eq]
    · rw [gG_fr F4 fun j hj q => by omega, g1]; rfl
  refine cs_before c0 hR fun M2 c2 => ⟨c2.1.1, ?_⟩
  refine s_prog_loop (M0 := M) hT hN hR 151 0 _ M2 rfl c2 (fun k M' M3 c3 e3 => ?_) (fun k M' p cf e => q0 (mI M1 6) (mI M1 7) k M' p cf e)
  subst e3
  refine q1 (mI M1 6) (mI M1 7) k _ ?_ ?_ (c3.2.2.2.2.2.2.2.1.sI ⟨by omega, by omega⟩) c3.pi
  · exact c3.1.1
  · rw [gG_fr (M := M3) (X := fun q => q = 5) (Fr.refl.sI rfl) fun j hj q => by omega]
    exact c3.2.2.2.2.2.2.1
theorem s_readCost (hT : Tp tp n) (hN : n < N) (hR : ReaderAt K 5) {Q : Int → ZMem → Prop} (hd : 6 ≤ d) (hK : KW K M) (ht : mI M 3 1 = n ∧ ∀ k, k < n → mI M 4 k = tp k) (hD : DI (gG M 8))
    (q1 : (ee tp N 0).1 = 1 → (ee tp N 0).2.1 = n → ∀ M', KW K M' → gF M' 21 = fApp (fSt (fNo (gG M 8).2.2.1)) (ee tp N 0).2.2 → DI (gG M' 8) → Fr (fun q => 5 ≤ q ∧ q < 25) M M' → Q (-1) M')
    (q0 : ¬ ((ee tp N 0).1 = 1 ∧ (ee tp N 0).2.1 = n) → ∀ M', CF K M M' tp n (ee tp N 0).2.1 → Q (ee tp N 0).2.1 M') : Ci d q5_readCost [zr 5] M Q := by
  obtain ⟨d, rfl⟩ : ∃ e, d = e + 1 := ⟨d - 1, by omega⟩
  have hG : FormulasAt K 21 := hR.2.2.2.2.2.2.2.2.2.2.2.2.2.2.2.2.2.2.2.2.2.2.2.2.2.2.2.2
  refine B5_readCost hK hR (s_clear hR hK (by omega) fun M1 k1 f1 g1 => ⟨k1, ?_⟩)
  have f1' : Fr (fun q => 5 ≤ q ∧ q < 25) M M1 := f1.wide fun q hq => ⟨by omega, hq.2⟩
  have F4 : Fr (fun q => q = 5) M1 (sI M1 5 4 0) := Fr.refl.sI rfl
  have c0 : CRd K (sI M1 5 4 0) tp n 0 := by
    refine ⟨k1, ⟨?_, fun k hk => ?_⟩, mI_sI_eq, Nat.zero_le _⟩
    · rw [F4.i (by decide), f1'.i (by omega)]; exact ht.1
    · rw [F4.i (by decide), f1'.i (by omega)]; exact ht.2 k hk
  have eg : gG (sI M1 5 4 0) 8 = pNo (gG M 8) := by rw [gG_fr F4 fun j hj q => by omega, g1]
  have ef : gF (sI M1 5 4 0) 21 = fNo (gG M 8).2.2.1 := congrArg (fun P : Pg => P.2.2.1) eg
  have hDI : ∀ M', fx 21 (sI M1 5 4 0) M' → FA (gF M' 21) → DI (gG M' 8) := fun M' f2 gA => by
    have F := f2.1
    have e1 : gG M' 8 = ((gG (sI M1 5 4 0) 8).1, (gG (sI M1 5 4 0) 8).2.1, gF M' 21, (gG (sI M1 5 4 0) 8).2.2.2) := by
      show (_, _, _, _) = (_, _, _, _)
      rw [gF_fr (o := 8 + 9) F fun i hi q => by unfold bk at q; omega, F.i (a := 8) (by unfold bk; omega)]
      refine Prod.ext ?_ rfl
      funext i
      show (if i < 7 then tq 0 40 (mI M' (8 + 1 + i)) else if i = 7 then tq 0 240 (mI M' (8 + 8)) else fun _ => 0) = if i < 7 then tq 0 40 (mI (sI M1 5 4 0) (8 + 1 + i)) else if i = 7 then tq 0 240 (mI (sI M1 5 4 0) (8 + 8)) else fun _ => 0
      by_cases c7 : i < 7
      · rw [if_pos c7, if_pos c7]
        exact tq_congr fun t _ _ => F.i (by unfold bk; omega) t
      · rw [if_neg c7, if_neg c7]
        by_cases c8 : i = 7
        · rw [if_pos c8, if_pos c8]
          exact tq_congr fun t _ _ => F.i (by unfold bk; omega) t
        · rw [if_neg c8, if_neg c8]
    rw [e1, eg]
    exact ⟨hD.1, hD.2.1, hD.2.2.1, hD.2.2.2.1, hD.2.2.2.2.1, gA⟩
  have z0 : (fNo (gG M 8).2.2.1).2.2.2.1 = 0 := rfl
  have z1 : (fNo (gG M 8).2.2.1).2.2.2.2 = 0 := rfl
  have fr2 : ∀ M', fx 21 (sI M1 5 4 0) M' → Fr (fun q => 5 ≤ q ∧ q < 25) M M' := fun M' f2 => (f1'.trans (F4.wide fun q hq => by omega)).trans (f2.1.wide fun q hq => by unfold bk at hq; omega)
  refine s_formula hT hN hR (by decide) hG (by omega) (Nat.zero_le _) c0 (by rw [ef, z0]; exact Int.le_refl 0) (by rw [ef, z0]; exact Int.le_refl 0) (by rw [ef, z1]; exact Int.le_refl 0) (by rw [ef, z1]; exact Int.le_refl 0) (by rw [ef]; exact hD.2.2.2.2.2) (fun k M2 c2 f2 g2 gA => ⟨c2.1, fun c => absurd c (by decide), fun _ => ?_⟩) (fun k M2 c2 f2 gA => ⟨c2.1, fun _ => ?_, fun c => absurd rfl c⟩)
  · have e4 := c2.2.2.1
    have e3 := c2.2.1.1
    rw [e4, e3]
    refine ⟨fun c => ?_, fun c => ?_⟩
    · exact q0 (fun q => c (by rw [q.2])) M2 ⟨c2, fr2 M2 f2, hDI M2 f2 gA⟩
    · exact q1 k (by omega) M2 c2.1 (by rw [g2, ef]) (hDI M2 f2 gA) (fr2 M2 f2)
  · rw [c2.2.2.1]
    exact q0 (fun q => k q.1) M2 ⟨c2, fr2 M2 f2, hDI M2 f2 gA⟩
end CWHOLE
