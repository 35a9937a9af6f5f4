/-! every statement, on both sides -/
section STEP
variable {K M0 : ZMem} {tp : Nat → Int} {n N T : Nat}
theorem wy_loop {d : Nat} (hT : Tp tp n) (hM : ModelAt K 2230) (hTb : T < 270) (hd : 5 ≤ d) {M : ZMem} {S : St} {m : Nat} {dt : Int} {σ0 : Int → Int} {Q : Int → ZMem → Prop} (hprog : ProgSpec K tp n N T (S.2.1 + 1) d) (h : SI n S) (h40 : zsz S < 40) (hm : m ≤ S.1)
    (q1 : ∀ M' S' m' σ, StP K M0 M tp n N T S m σ0 M' S' m' σ → S'.2.2.2.1 S.2.1 = zsz S → gBehind (zg S') (zsz S) = -1 → mI M' 2236 (σ (zsz S)).toNat = -1 → Q (σ (zsz S)) M') (q0 : SFail K M0 M tp n N T S m Q) : ∀ (j i : Nat), i + (j + 1) = 6 → ∀ (S2 : St) (M2 : ZMem) (m2 : Nat) (σ2 : Int → Int) (fs : Nat → Int) (hi : Nat) (hole F L l4 : Int), l4 ≠ 0 → Inn K M0 M tp n N T S 5 dt m σ0 M2 S2 m2 σ2 i fs hi hole 1 → SI n S2 → S2.2.2.2.1 (S.2.1 + 1) = -1 → hi ≤ T * 260 + m2 → hole < T * 260 + m2 → (1 ≤ i → L = hole) → CW M2 (T * 260 + m) (T * 260 + m2) i F L (fun j => σ2 (fs j)) →
    Xi (d + 1) q10_readsWays 20 [some (zr 2230), some (zi F), some (zi L), some (zi (i : Int)), some (zi l4), none, none] [] M2 Q
  | 0, i, hi => wy_item hT hM hTb hd hprog h h40 hm q1 q0 0 i hi fun c => absurd c (by decide)
  | j + 1, i, hi => wy_item hT hM hTb hd hprog h h40 hm q1 q0 (j + 1) i hi fun _ => wy_loop hT hM hTb hd hprog h h40 hm q1 q0 j (i + 1) (by omega)
theorem open_fail {S : St} {pb : Nat} {kd dt : Int} (hpn : S.1 ≤ n) (hdue : S.2.2.2.2.1 = 1) (hop : (S.2.1 : Int) = 6) (hz : zStmt tp N S = zOpen (zAdd (zP S pb) kd dt) (zsz S)) : Fails tp N n S pb := by
  have hzz : zStep tp N n S = (0, zAdd (zP S pb) kd dt) := by
    rw [step_due hdue, hz]
    unfold zOpen
    exact if_neg (by show ¬ S.2.1 < 6; omega)
  have hf := fails_step (tp := tp) (N := N) (n := n) (S := S) hpn (by rw [hzz])
  rw [hzz] at hf
  exact hf
theorem n_ways {d : Nat} (hT : Tp tp n) (hM : ModelAt K 2230) (hTb : T < 270) (hd : 5 ≤ d) {M M1 : ZMem} {S : St} {m : Nat} {σ0 : Int → Int} {Q : Int → ZMem → Prop} (hprog : ProgSpec K tp n N T (S.2.1 + 1) d) (h : SI n S) (hdue : S.2.2.2.2.1 = 1) (h40 : zsz S < 40) (hb : S.2.2.2.1 S.2.1 < zsz S) (hm : m ≤ S.1) (he : tp S.1 = 40) (hz : zStmt tp N S = zOpen (zAdd (zP S S.1) 5 0) (zsz S)) (hn : NM K M0 M1 tp n T S.1 (-1) S.2.1 (zsz S + 1) m) (hnd : ndB (T * 260 + m) M M1)
    (q1 : ∀ M' S' m' σ, StP K M0 M tp n N T S m σ0 M' S' m' σ → S'.2.2.2.1 S.2.1 = zsz S → gBehind (zg S') (zsz S) = -1 → mI M' 2236 (σ (zsz S)).toNat = -1 → Q (σ (zsz S)) M') (q0 : SFail K M0 M tp n N T S m Q) : Ci (d + 1) q10_readsWays [zr 2230] M1 Q := by
  have hop6 := h.1.2.2.2.2.1
  have hn150 := hT.1
  refine B10_readsWays hn.1 hM (n_opens hT hM (by omega) (by decide) (by omega) hn (fun c1 c2 c3 M2 b2 g2 => ⟨b2.1, fun _ => ?_, fun c => absurd (by decide) c⟩) (fun c M2 b2 g2 => ⟨b2.1, fun c => absurd rfl c, fun _ => q0 M2 S.1 S.1 m _ _ 0 b2 (open_fail h.2.1 hdue (c.resolve_left fun q => q he) hz) (hnd.trans g2 (Nat.le_refl _)) (by omega) (by omega)⟩))
  have hIn := Inn_in (M0 := M0) (M := M) (σ0 := σ0) h h40 hb (by omega) (Nat.le_refl _) (by omega) hn150 (by decide) (by decide) hdue hz b2 (hnd.trans g2 (Nat.le_refl _)) (fun _ => 0) 0
  exact wy_loop hT hM hTb hd hprog h h40 hm q1 q0 5 0 rfl _ M2 m σ0 (fun _ => 0) 0 (-1) (-1) (-1) 1 (by decide) hIn (in_SI h h40 hb (by omega) (Nat.le_refl _) (by omega) hn150 (by decide) (by decide)) fup_self (by omega) (by omega) (fun c => absurd c (by decide)) ⟨fun j hj => absurd hj (by omega), fun a b _ hb => absurd hb (by omega), rfl, fun c => absurd c (by decide)⟩
theorem n_step (hT : Tp tp n) (hM : ModelAt K 2230) (hTb : T < 270) (hN : n < N) {op e : Nat} (he : N + 10 ≤ e) (hprog : ProgSpec K tp n N T (op + 1) e) : StepSpec K tp n N T op (e + 2) := by
  intro M0 M S m σ0 Q hop hdue hSI hb hn hm q1 q0
  subst hop
  have hn150 := hT.1
  have hpn := hSI.2.1
  have hst := step_due (tp := tp) (N := N) (n := n) hdue
  obtain ⟨e2, e3, e4, e5, e6, e7⟩ := hn.2.2.1
  have hsz40 := hSI.1.1
  refine B10_readsStep hn.1 hM ⟨fun _ => ⟨fun ne40 => ?_, fun eq40 => ?_⟩, fun c => absurd (by omega) c⟩
  · have h40 : zsz S < 40 := by omega
    have a1 := hn.tds (x := (mI M 2230 5) + 1)
    have hnd1 : ndB (T * 260 + m) M (sI M 2230 5 ((mI M 2230 5) + 1)) := ndB.refl.sc
    rw [e5] at a1 hnd1 ⊢
    generalize hM1 : sI M 2230 5 (zsz S + 1) = M1 at *
    refine ⟨⟨by omega, by omega⟩, ?_⟩
    have ez : zStmt tp N S = if tp S.1 = 40 then zOpen (zAdd S 5 0) (zsz S)
  else if tp S.1 = 91 then zOpen (zAdd S 6 0) (zsz S)
  else if tp S.1 = 126 then (if tp (S.1 + 1) = 91 then zOpen (zAdd (zP S (S.1 + 1)) 7 0) (zsz S) else (0, zP S (S.1 + 1)))
  else if tp S.1 = 33 then (1, zP (zAdd S 8 0) (S.1 + 1))
  else if 49 ≤ tp S.1 ∧ tp S.1 ≤ 57 ∧ tp (S.1 + 1) = 42 ∧ tp (S.1 + 2) = 40 then zOpen (zAdd (zP S (S.1 + 2)) 9 (tp S.1 - 48)) (zsz S)
  else if zV (tp S.1) ∧ tp (S.1 + 1) = 58 then zForm tp N (zAdd (zP S (S.1 + 2)) 1 (tp S.1 - 97))
  else if zV (tp S.1) ∧ tp (S.1 + 1) = 63 then zChoose tp N (zP S (S.1 + 2)) (tp S.1 - 97)
  else zTest tp N S := by
      unfold zStmt
      exact if_neg (fun q => q h40)
    have f2 := a1.2.2.1.1
    have inD : inR ((mI M1 2230 2) + 1) ∧ inR ((mI M1 2230 2) + 2) := ⟨⟨by omega, by omega⟩, ⟨by omega, by omega⟩⟩
    -- one by one
    have lCut : tp S.1 = 33 → Ci (e + 1) q10_writes [zr 2230, zi 15, zi 0, zi 0, zi 0] (sI M1 2230 2 ((mI M1 2230 2) + 1)) (fun x M' => KW K M' ∧ Q x M') := fun c => by
      have hin := hT.in (p := S.1) (by omega)
      refine n_cut hT hM hTb hSI hdue h40 hb hm ?_ hin (a1.at' (by omega) (by omega)) hnd1.sc fun M' S' m' σ w1 w2 w3 w4 => ⟨w1.1.1, q1 M' S' m' σ w1 w2 w3 w4⟩
      rw [ez, if_neg (by omega), if_neg (by omega), if_neg (by omega), if_pos c]
    have lWays : tp S.1 = 40 → Ci (e + 1) q10_readsWays [zr 2230] M1 (fun x M' => KW K M' ∧ Q x M') := fun c => by
      refine n_ways hT hM hTb (by omega) hprog hSI hdue h40 hb hm c ?_ a1 hnd1 (fun M' S' m' σ w1 w2 w3 w4 => ⟨w1.1.1, q1 M' S' m' σ w1 w2 w3 w4⟩) (fun M' g p m' op td x w1 w2 w3 w4 w5 => ⟨w1.1, q0 M' g p m' op td x w1 w2 w3 w4 w5⟩)
      rw [ez, if_pos c]
      rfl
    have lOnce : tp S.1 = 91 → Ci (e + 1) q10_readsBrackets [zr 2230, zi 91, zi 93] M1 (fun x2 M2 => KW K M2 ∧ Ci (e + 1) q10_writes [zr 2230, zi 13, zi x2, zi 0, zi 0] M2 (fun x3 M3 => KW K M3 ∧ Q x3 M3)) := fun c => by
      have hz : zStmt tp N S = zOpen (zAdd (zP S S.1) 6 0) (zsz S) := by
        rw [ez, if_neg (by omega), if_pos c]
        rfl
      exact n_once (kd := 6) hT hM hTb (by omega) hprog hSI hdue h40 hb hm (Nat.le_refl _) (Or.inl ⟨rfl, rfl⟩) (fun _ => hz) (fun q => open_fail hpn hdue (q.resolve_left fun w => w c) hz) a1 hnd1 q1 q0
    have lNot : tp S.1 = 126 → Ci (e + 1) q10_readsBrackets [zr 2230, zi 91, zi 93] (sI M1 2230 2 ((mI M1 2230 2) + 1)) (fun x2 M2 => KW K M2 ∧ Ci (e + 1) q10_writes [zr 2230, zi 14, zi x2, zi 0, zi 0] M2 (fun x3 M3 => KW K M3 ∧ Q x3 M3)) := fun c => by
      have hin := hT.in (p := S.1) (by omega)
      have hz0 : zStmt tp N S = if tp (S.1 + 1) = 91 then zOpen (zAdd (zP S (S.1 + 1)) 7 0) (zsz S) else (0, zP S (S.1 + 1)) := by
        rw [ez, if_neg (by omega), if_neg (by omega), if_pos c]
      have hz : tp (S.1 + 1) = 91 → zStmt tp N S = zOpen (zAdd (zP S (S.1 + 1)) 7 0) (zsz S) := fun q => by rw [hz0, if_pos q]
      refine n_once (kd := 7) hT hM hTb (by omega) hprog hSI hdue h40 hb hm (by omega) (Or.inr ⟨rfl, rfl⟩) hz (fun q => ?_) (a1.at' (p' := S.1 + 1) (by omega) (by omega)) hnd1.sc q1 q0
      by_cases c2 : tp (S.1 + 1) = 91
      · exact open_fail hpn hdue (q.resolve_left fun w => w c2) (hz c2)
      · have hzz : zStep tp N n S = (0, zP S (S.1 + 1)) := by rw [hst, hz0, if_neg c2]
        have hf := fails_step (tp := tp) (N := N) (n := n) (S := S) hpn (by rw [hzz])
        rw [hzz] at hf
        exact hf
    have lTest : zStmt tp N S = zTest tp N S → Ci (e + 1) q10_readsTest [zr 2230] M1 (fun x M' => KW K M' ∧ Q x M') := fun hz =>
      n_test hT hM hTb hN (by omega) hSI hdue h40 hb hm hz a1 hnd1 (fun M' S' m' σ w1 w2 w3 w4 => ⟨w1.1.1, q1 M' S' m' σ w1 w2 w3 w4⟩) (fun M' g p m' op td x w1 w2 w3 w4 w5 => ⟨w1.1, q0 M' g p m' op td x w1 w2 w3 w4 w5⟩)
    have lRounds : 49 ≤ tp S.1 ∧ tp S.1 ≤ 57 → tp (S.1 + 1) = 42 → tp (S.1 + 2) = 40 → Ci (e + 1) q10_readsBrackets [zr 2230, zi 40, zi 41] (sI M1 2230 2 ((mI M1 2230 2) + 2)) (fun x2 M2 => KW K M2 ∧ (inR (tp S.1 - 48)) ∧ Ci (e + 1) q10_writes [zr 2230, zi 16, zi (tp S.1 - 48), zi x2, zi 0] M2 (fun x3 M3 => KW K M3 ∧ Q x3 M3)) := fun c1 c2 c3 => by
      have hin := hT.in (p := S.1 + 2) (by omega)
      have hz : zStmt tp N S = zOpen (zAdd (zP S (S.1 + 2)) 9 (tp S.1 - 48)) (zsz S) := by
        rw [ez, if_neg (by omega), if_neg (by omega), if_neg (by omega), if_neg (by omega), if_pos ⟨c1.1, c1.2, c2, c3⟩]
      exact (n_rounds hT hM hTb (by omega) hprog hSI hdue h40 hb hm (by omega) (by omega) (fun _ => hz) (fun q => open_fail hpn hdue (q.resolve_left fun w => w c3) hz) (a1.at' (p' := S.1 + 2) (by omega) (by omega)) hnd1.sc q1 q0).mono fun x M' w => ⟨w.1, ⟨by omega, by omega⟩, w.2⟩
    have lAssign : zV (tp S.1) → tp (S.1 + 1) = 58 → Ci (e + 1) q10_readsSum [zr 2230] (sI M1 2230 2 ((mI M1 2230 2) + 2)) (fun x2 M2 => KW K M2 ∧ Ci (e + 1) q10_writes [zr 2230, zi 7, zi (tp S.1 - 97), zi x2, zi 0] M2 (fun x3 M3 => KW K M3 ∧ Q x3 M3)) := fun c1 c2 => by
      have hin := hT.in (p := S.1 + 1) (by omega)
      have c1' : 97 ≤ tp S.1 ∧ tp S.1 ≤ 104 := c1
      have hz : zStmt tp N S = zForm tp N (zAdd (zP S (S.1 + 2)) 1 (tp S.1 - 97)) := by
        rw [ez, if_neg (by omega), if_neg (by omega), if_neg (by omega), if_neg (by omega), if_neg (by omega), if_pos ⟨c1, c2⟩]
      exact n_assign hT hM hTb hN (by omega) hSI hdue h40 hb hm (by omega) hz (by omega) (a1.at' (p' := S.1 + 2) (by omega) (by omega)) hnd1.sc q1 q0
    have lChoose : zV (tp S.1) → tp (S.1 + 1) = 63 → Ci (e + 1) q10_readsChoose [zr 2230, zi (tp S.1 - 97)] (sI M1 2230 2 ((mI M1 2230 2) + 2)) (fun x M' => KW K M' ∧ Q x M') := fun c1 c2 => by
      have hin := hT.in (p := S.1 + 1) (by omega)
      have c1' : 97 ≤ tp S.1 ∧ tp S.1 ≤ 104 := c1
      have hz : zStmt tp N S = zChoose tp N (zP S (S.1 + 2)) (tp S.1 - 97) := by
        rw [ez, if_neg (by omega), if_neg (by omega), if_neg (by omega), if_neg (by omega), if_neg (by omega), if_neg (by omega), if_pos ⟨c1, c2⟩]
      exact n_choose hT hM hTb hN (by omega) hSI hdue h40 hb hm (by omega) hz (by omega) (a1.at' (p' := S.1 + 2) (by omega) (by omega)) hnd1.sc (fun M' S' m' σ w1 w2 w3 w4 => ⟨w1.1.1, q1 M' S' m' σ w1 w2 w3 w4⟩) (fun M' g p m' op td x w1 w2 w3 w4 w5 => ⟨w1.1, q0 M' g p m' op td x w1 w2 w3 w4 w5⟩)
    have r1 : (mI M1 2230 2) + 1 = ((S.1 + 1 : Nat) : Int) := by omega
    have r2 : (mI M1 2230 2) + 2 = ((S.1 + 2 : Nat) : Int) := by omega
    -- the sign stands for itself
    have sw : (tp S.1 ≠ 33 ∧ tp S.1 ≠ 40 ∧ tp S.1 ≠ 91 ∧ tp S.1 ≠ 126 → zStmt tp N S = zTest tp N S) → ((tp S.1 = 33 → ((inR ((mI M1 2230 2) + 1)) ∧ Ci (e + 1) q10_writes [zr 2230, zi 15, zi 0, zi 0, zi 0] (sI M1 2230 2 ((mI M1 2230 2) + 1)) (fun x19 M18 => KW K M18 ∧ Q x19 M18))) ∧ (tp S.1 = 40 → (Ci (e + 1) q10_readsWays [zr 2230] M1 (fun x23 M22 => KW K M22 ∧ Q x23 M22))) ∧ (tp S.1 = 91 → (Ci (e + 1) q10_readsBrackets [zr 2230, zi 91, zi 93] M1 (fun x27 M26 => KW K M26 ∧ Ci (e + 1) q10_writes [zr 2230, zi 13, zi x27, zi 0, zi 0] M26 (fun x31 M30 => KW K M30 ∧ Q x31 M30)))) ∧ (tp S.1 = 126 → ((inR ((mI M1 2230 2) + 1)) ∧ Ci (e + 1) q10_readsBrackets [zr 2230, zi 91, zi 93] (sI M1 2230 2 ((mI M1 2230 2) + 1)) (fun x37 M36 => KW K M36 ∧ Ci (e + 1) q10_writes [zr 2230, zi 14, zi x37, zi 0, zi 0] M36 (fun x41 M40 => KW K M40 ∧ Q x41 M40)))) ∧ (tp S.1 ≠ 33 ∧ tp S.1 ≠ 40 ∧ tp S.1 ≠ 91 ∧ tp S.1 ≠ 126 → (Ci (e + 1) q10_readsTest [zr 2230] M1 (fun x45 M44 => KW K M44 ∧ Q x45 M44)))) := fun t => ⟨fun c => ⟨inD.1, lCut c⟩, lWays, lOnce, fun c => ⟨inD.1, lNot c⟩, fun c => lTest (t c)⟩
    refine n_peek hT a1 hM (by omega) ⟨a1.1, n_isName hT a1 hM (by omega) (fun nm => ⟨a1.1, fun c => absurd c (by decide), fun _ => ⟨inD.1, ?_⟩⟩) (fun nm => ⟨a1.1, fun _ => ⟨fun dg9 => ⟨inD.1, ?_⟩, fun dg9 => sw fun c => ?_⟩, fun c => absurd rfl c⟩)⟩
    · -- a name
      refine n_byteAt hT a1 hM r1 ⟨a1.1, fun c58 => ?_, fun c58 => ⟨inD.1, n_byteAt hT a1 hM r1 ⟨a1.1, fun c63 => ⟨fun c => absurd c (by omega), fun _ => sw fun c => ?_⟩, fun c63 => ?_⟩⟩⟩
      · have hin := hT.in (p := S.1 + 1) (by omega)
        have a3 := a1.at' (x := (mI M1 2230 2) + 2) (p' := S.1 + 2) (by omega) (by omega)
        have f3 := a3.2.2.1.1
        refine ⟨inD.2, ⟨by omega, by omega⟩, n_byteAt hT a3 hM (k := S.1 + 1) (by omega) ⟨a3.1, fun c => absurd c58 c, fun _ => ⟨⟨by omega, by omega⟩, lAssign nm c58⟩⟩⟩
      · rw [ez, if_neg (by omega), if_neg (by omega), if_neg (by omega), if_neg (by omega), if_neg (by omega), if_neg (by omega), if_neg (by omega)]
      · have c63 : tp (S.1 + 1) = 63 := Decidable.not_not.mp c63
        have hin := hT.in (p := S.1 + 1) (by omega)
        have a3 := a1.at' (x := (mI M1 2230 2) + 2) (p' := S.1 + 2) (by omega) (by omega)
        have f3 := a3.2.2.1.1
        refine ⟨inD.2, ⟨by omega, by omega⟩, n_byteAt hT a3 hM (k := S.1 + 1) (by omega) ⟨a3.1, fun _ => ⟨⟨by omega, by omega⟩, lChoose nm c63⟩, fun c => absurd c63 (by omega)⟩⟩
    · -- a digit
      refine n_byteAt hT a1 hM r1 ⟨a1.1, fun c42 => sw fun c => ?_, fun c42 => ⟨inD.2, n_byteAt hT a1 hM r2 ⟨a1.1, fun c40 => sw fun c => ?_, fun c40 => ⟨inD.2, lRounds dg9 (Decidable.not_not.mp c42) (Decidable.not_not.mp c40)⟩⟩⟩⟩
      · rw [ez, if_neg (by omega), if_neg (by omega), if_neg (by omega), if_neg (by omega), if_neg (by omega), if_neg (fun q => nm q.1), if_neg (fun q => nm q.1)]
      · rw [ez, if_neg (by omega), if_neg (by omega), if_neg (by omega), if_neg (by omega), if_neg (by omega), if_neg (fun q => nm q.1), if_neg (fun q => nm q.1)]
    · rw [ez, if_neg (by omega), if_neg (by omega), if_neg (by omega), if_neg (by omega), if_neg (by omega), if_neg (fun q => nm q.1), if_neg (fun q => nm q.1)]
  · have eq40 : mI M 2230 5 = 40 := Decidable.not_not.mp eq40
    have hzz : zStep tp N n S = (0, S) := by
      rw [hst]; unfold zStmt; exact if_pos (by omega)
    have hf := fails_step (tp := tp) (N := N) (n := n) (S := S) hpn (by rw [hzz])
    rw [hzz] at hf
    refine n_wrong hn hM fun M3 a3 g3 => ⟨a3.1, ?_⟩
    rw [if_neg (by decide), e2] at a3
    exact q0 M3 S.1 _ _ _ _ _ a3 hf g3 (Int.le_refl _) (by omega)
theorem prog_all (hT : Tp tp n) (hM : ModelAt K 2230) (hTb : T < 270) (hN : n < N) {e : Nat} (he : N + 10 ≤ e) : ∀ (k op : Nat), op + k = 7 → ProgSpec K tp n N T op (e + 3 * k)
  | 0, op, hk => fun M0 M S m σ0 Q h1 h2 h3 h4 => by
    have := h4.1.2.2.2.2.1
    omega
  | k + 1, op, hk => by
    have := prog_all hT hM hTb hN he k (op + 1) (by omega)
    have h1 := n_step (e := e + 3 * k) hT hM hTb hN (by omega) this
    have h2 := n_prog hT hM hTb (d := e + 3 * k + 2) (by omega) h1
    rw [show e + 3 * (k + 1) = e + 3 * k + 2 + 1 by omega]
    exact h2
end STEP
