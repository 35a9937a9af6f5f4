/-! test, among on both sides -/
section SIMPLE3
variable {K M0 : ZMem} {tp : Nat → Int} {n N T : Nat}
theorem ee_no {p : Nat} (hN : 0 < N) (h1 : tp p ≠ 45) (h2 : ¬ zV (tp p)) (h3 : ¬ dg (tp p)) : (ee tp N p).1 = 0 ∧ (ee tp N p).2.1 = p := by
  obtain ⟨f, rfl⟩ : ∃ f, N = f + 1 := ⟨N - 1, by omega⟩
  have hu : un tp (f + 1) p = (0, p, 0) := by rw [un, if_neg h1, if_neg h2, if_neg h3]
  unfold ee
  rw [er_bad (by rw [hu]; exact (show (0 : Int) ≠ 1 by decide)), hu]
  exact ⟨rfl, rfl⟩
theorem n_test {d : Nat} (hT : Tp tp n) (hM : ModelAt K 2230) (hTb : T < 270) (hN : n < N) (hd : N + 7 ≤ d) {M M1 : ZMem} {S : St} {m : Nat} {σ0 : Int → Int} {Q : Int → ZMem → Prop} (h : SI n S) (hdue : S.2.2.2.2.1 = 1) (h40 : zsz S < 40) (hb : S.2.2.2.1 S.2.1 < zsz S) (hm : m ≤ S.1) (hz : zStmt tp N S = zTest tp N S) (hn : NM K M0 M1 tp n T S.1 (-1) S.2.1 (zsz S + 1) m) (hnd : ndB (T * 260 + m) M M1)
    (q1 : ∀ M' S' m' σ, StP K M0 M tp n N T S m σ0 M' S' m' σ → S'.2.2.2.1 S.2.1 = zsz S → gBehind (zg S') (zsz S) = -1 → mI M' 2236 (σ (zsz S)).toNat = -1 → Q (σ (zsz S)) M') (q0 : SFail K M0 M tp n N T S m Q) : Ci d q10_readsTest [zr 2230] M1 Q := by
  obtain ⟨d, rfl⟩ : ∃ e, d = e + 1 := ⟨d - 1, by omega⟩
  have hn150 := hT.1
  have hpn := h.2.1
  have hst := step_due (tp := tp) (N := N) (n := n) hdue
  have hpiA := zAdd_pi h.1 h40 (by omega) (kd := 2) (dt := 0) (by omega)
  obtain ⟨b1, b2, b3, b4, b5⟩ := ee_b hT hN hpn
  have e2 := zAdd_2 (S := S) (kd := 2) (dt := 0)
  have eF : (zg (zAdd S 2 0)).2.1 = (zg S).2.1 := congrArg (fun x => x.1) e2
  -- all that comes once the first E was read, or wasn't
  have flt : ∀ (M2 : ZMem) (g p2 m2 : Nat) (td2 x2 : Int), NM K M0 M2 tp n T p2 g S.2.1 td2 m2 → Fails tp N n S g → ndB (T * 260 + m) M M2 → ∀ (M3 : ZMem) (sg : Int), NM K M0 M3 tp n T p2 g S.2.1 td2 m2 → (∀ b, ndB b M2 M3) → Ci d q10_readsSum [zr 2230] M3 (fun x4 M4 => KW K M4 ∧ Ci d q10_writes [zr 2230, zi 10, zi x2, zi x4, zi sg] M4 (fun x5 M5 => KW K M5 ∧ Q x5 M5)) := fun M2 g p2 m2 td2 x2 a2 hf g2 M3 sg a3 g3 =>
    n_sum_fault hT hM (by omega) (Int.natCast_nonneg _) a3 ⟨a3.1, n_writes_fault hM (Int.natCast_nonneg _) hTb a3 fun x => ⟨a3.1, q0 M3 g p2 m2 _ _ x a3 hf (g2.trans (g3 _) (Nat.le_refl _)) (Int.le_refl _) (by omega)⟩⟩
  have fltAll : ∀ (M2 : ZMem) (g p2 m2 : Nat) (td2 x2 : Int), NM K M0 M2 tp n T p2 g S.2.1 td2 m2 → Fails tp N n S g → ndB (T * 260 + m) M M2 → (0 ≤ mI M2 2230 3) ∧ (∀ sg : Int, (inR ((mI M2 2230 2) + 0)) ∧ Ci d q10_readsSum [zr 2230] (sI M2 2230 2 ((mI M2 2230 2) + 0)) (fun x4 M4 => KW K M4 ∧ Ci d q10_writes [zr 2230, zi 10, zi x2, zi x4, zi sg] M4 (fun x5 M5 => KW K M5 ∧ Q x5 M5))) ∧ Cv d q10_wrong [zr 2230, zi (mI M2 2230 2)] M2 (fun M89 => KW K M89 ∧ Q 0 M89) := fun M2 g p2 m2 td2 x2 a2 hf g2 => by
    have e3 := a2.2.2.1.2.1
    have e2' := a2.2.2.1.1
    have hp2 := a2.2.2.2.2.2
    refine ⟨by omega, fun sg => ⟨⟨by omega, by omega⟩, flt M2 g p2 m2 td2 x2 a2 hf g2 _ sg (a2.at' (by omega) hp2) fun b => ndB.refl.sc⟩, ?_⟩
    refine B10_wrong _ a2.1 hM ⟨fun _ => ?_, fun c => absurd (by omega) c⟩
    have a := a2.fault (x := mI M2 2230 3)
    rw [e3] at a ⊢
    exact ⟨a.1, q0 _ g p2 m2 _ _ _ a hf (g2.trans ndB.refl.sc (Nat.le_refl _)) (Int.le_refl _) (by omega)⟩
  have hbad : (ee tp N S.1).1 ≠ 1 → Fails tp N n S (ee tp N S.1).2.1 := fun k1 => by
    by_cases cl : zV (tp S.1) ∨ dg (tp S.1) ∨ tp S.1 = 45
    · have hz1 : zStmt tp N S = zForm tp N (zAdd S 2 0) := by
        rw [hz]; unfold zTest; rw [if_pos cl]; unfold zThen; exact if_neg k1
      have hf := fails_step (tp := tp) (N := N) (n := n) (S := S) hpn (by rw [hst, hz1]; exact b4.resolve_right k1)
      rw [hst, hz1] at hf
      exact hf
    · have hz1 : zStmt tp N S = (0, S) := by rw [hz]; unfold zTest; exact if_neg cl
      have hf := fails_step (tp := tp) (N := N) (n := n) (S := S) hpn (by rw [hst, hz1])
      rw [hst, hz1] at hf
      rw [(ee_no (by omega) (fun q => cl (Or.inr (Or.inr q))) (fun q => cl (Or.inl q)) (fun q => cl (Or.inr (Or.inl q)))).2]
      exact hf
  refine B10_readsTest hn.1 hM (n_sum hT hM hTb hN (by omega) hpn hm hn (fun k1 M2 m2 x a2 g2 l1 l2 k2 k3 => ⟨a2.1, ?_⟩) (fun k1 M2 p2 m2 x a2 g2 => ⟨a2.1, ?_⟩))
  · have b5 := b5 k1
    have cl : zV (tp S.1) ∨ dg (tp S.1) ∨ tp S.1 = 45 := by
      by_cases cl : zV (tp S.1) ∨ dg (tp S.1) ∨ tp S.1 = 45
      · exact cl
      · have := (ee_no (N := N) (by omega) (fun q => cl (Or.inr (Or.inr q))) (fun q => cl (Or.inl q)) (fun q => cl (Or.inr (Or.inl q)))).1
        omega
    obtain ⟨hF0, g, hg, hg150⟩ := PI.fm hT h.1 (by omega)
    have hPI1 := zForm_pi' hT hN hpiA hpn k1
    have hz1 : zStmt tp N S = if zSg (tp (zForm tp N (zAdd S 2 0)).2.1) then zForm tp N (zP (zDet (zForm tp N (zAdd S 2 0)).2 (zsz S) (tp (zForm tp N (zAdd S 2 0)).2.1)) ((zForm tp N (zAdd S 2 0)).2.1 + 1)) else (0, (zForm tp N (zAdd S 2 0)).2) := by
      rw [hz]; unfold zTest; rw [if_pos cl]; unfold zThen; exact if_pos k1
    have eF1 : (zg (zForm tp N (zAdd S 2 0)).2).2.1 = fApp (fSt (zg S).2.1) (ee tp N S.1).2.2 := by rw [← eF]; rfl
    have ep1 : (zForm tp N (zAdd S 2 0)).2.1 = (ee tp N S.1).2.1 := rfl
    have eg1 : (zg (zForm tp N (zAdd S 2 0)).2).1 = (pNew S 2 0).1 := rfl
    have es1 : zsz (zForm tp N (zAdd S 2 0)).2 = zsz S + 1 := congrArg (fun x : Fm × Fm × Int => x.2.2) e2
    have eo1 : (zForm tp N (zAdd S 2 0)).2.2.1 = S.2.1 ∧ (zForm tp N (zAdd S 2 0)).2.2.2.1 = S.2.2.1 ∧ (zForm tp N (zAdd S 2 0)).2.2.2.2.1 = fup S.2.2.2.1 S.2.1 (zsz S) ∧ (zForm tp N (zAdd S 2 0)).2.2.2.2.2.1 = 0 := ⟨rfl, rfl, rfl, rfl⟩
    generalize (zForm tp N (zAdd S 2 0)).2 = A1 at *
    generalize hL1 : (ee tp N S.1).2.2 = L1 at *
    generalize (ee tp N S.1).2.1 = p1 at *
    rw [ep1] at hz1
    have e3 := a2.2.2.1.2.1
    have e2' := a2.2.2.1.1
    -- the sign stands
    have sign : zSg (tp p1) → (inR ((mI M2 2230 2) + 1)) ∧ Ci d q10_readsSum [zr 2230] (sI M2 2230 2 ((mI M2 2230 2) + 1)) (fun x4 M4 => KW K M4 ∧ Ci d q10_writes [zr 2230, zi 10, zi x, zi x4, zi (tp p1)] M4 (fun x5 M5 => KW K M5 ∧ Q x5 M5)) := fun hs => by
      have hin := hT.in (p := p1) (by omega)
      rw [if_pos hs] at hz1
      have a3 := a2.at' (x := mI M2 2230 2 + 1) (p' := p1 + 1) (by omega) (by omega)
      have g3 : ndB (T * 260 + m2) M2 (sI M2 2230 2 (mI M2 2230 2 + 1)) := ndB.refl.sc
      obtain ⟨d1, d2, d3, d4, d5⟩ := ee_b hT hN (p := p1 + 1) (by omega)
      generalize sI M2 2230 2 (mI M2 2230 2 + 1) = M3 at *
      refine ⟨⟨by omega, by omega⟩, n_sum hT hM hTb hN (by omega) (by omega) (by omega) a3 (fun w1 M4 m4 y a4 g4 l3 l4 w2 w3 => ⟨a4.1, ?_⟩) (fun w1 M4 p4 m4 y a4 g4 => ⟨a4.1, ?_⟩)⟩
      · have d5 := d5 w1
        refine n_writes a4 hM hTb (fun _ => by omega) (fun c => absurd c (by decide)) fun _ M5 a5 g5 s5 => ⟨a5.1, ?_⟩
        have hr := reach_step (tp := tp) (N := N) (n := n) (S := S) hpn (by rw [hst, hz1]; exact w1) (by rw [hst, hz1]; show S.1 < (ee tp N (p1 + 1)).2.1; omega)
        rw [hst, hz1] at hr
        have hDetPI : PI (zP (zDet A1 (zsz S) (tp p1)) (p1 + 1)) := PI_zP (PI_draft hPI1 pDet_2 (pDet_DI hPI1.2.1 (by omega))) (by show A1.1 ≤ p1 + 1; omega)
        have hPI := zForm_pi' hT hN hDetPI (by show p1 + 1 ≤ n; omega) w1
        have eF2 : (zg (zForm tp N (zP (zDet A1 (zsz S) (tp p1)) (p1 + 1))).2).2.1 = fApp (fSt (fApp (fSt (zg S).2.1) L1)) (ee tp N (p1 + 1)).2.2 := by
          show fApp (fSt (pDet (zg A1) (zsz S) (tp p1)).2.1) _ = _
          rw [pDet_2, eF1]
          rfl
        obtain ⟨i1, i2, i3, i4, i5⟩ := fApp_f (fSt (zg S).2.1) hF0 L1
        have hF1 : 0 ≤ (fApp (fSt (zg S).2.1) L1).2.2.2.1 := by rw [i1]; show 0 ≤ (zg S).2.1.2.2.2.1 + _; omega
        have hg1 : (fApp (fSt (zg S).2.1) L1).2.2.2.2 = ((g + 1 : Nat) : Int) := by rw [i2]; show (zg S).2.1.2.2.2.2 + 1 = _; omega
        have hg2 : g + 1 < 150 := by
          have := hPI1.2.2.2.1.2
          rw [eF1, hg1, ep1] at this
          omega
        have hs0 := h.1.1.1
        have hhA : gHas (zg A1) (zsz S) := ⟨hs0, by show zsz S < zsz A1; omega, h40⟩
        have edet : ∀ j t : Nat, (zg (zForm tp N (zP (zDet A1 (zsz S) (tp p1)) (p1 + 1))).2).1 j t = if j = 1 ∧ t = (zsz S).toNat then tp p1 else (pNew S 2 0).1 j t := fun j t => by
          show (pDet (zg A1) (zsz S) (tp p1)).1 j t = _
          unfold pDet
          rw [if_pos hhA, pU_at, eg1]
        have hj : ∀ j t : Nat, (j ≠ 1 ∨ (t : Int) ≠ zsz S) → (zg (zForm tp N (zP (zDet A1 (zsz S) (tp p1)) (p1 + 1))).2).1 j t = (pNew S 2 0).1 j t := fun j t q => by
          rw [edet, if_neg (by omega)]
        obtain ⟨p1', p2', p3'⟩ := pNew_lo (kd := 2) (dt := 0) h h40 hb
        have hszF : zsz (zForm tp N (zP (zDet A1 (zsz S) (tp p1)) (p1 + 1))).2 = zsz S + 1 := by
          show (pDet (zg A1) (zsz S) (tp p1)).2.2.2 = _
          rw [pDet_2]; exact es1
        obtain ⟨f1, f2, f3, f4, f5, f6, f7, f8⟩ := new_facts (S' := (zForm tp N (zP (zDet A1 (zsz S) (tp p1)) (p1 + 1))).2) (kd := 2) (dt := 0) h h40 hb (by omega) (by omega) (fun j t q _ => hj j t (by omega)) (by rw [hj 3 _ (by omega)]; exact p2')
        have eD : gDetail (zg (zForm tp N (zP (zDet A1 (zsz S) (tp p1)) (p1 + 1))).2) (zsz S) = tp p1 := by rw [f7, edet, if_pos ⟨rfl, rfl⟩]
        obtain ⟨r1, r2, r3, r4⟩ := StP_simple (M0 := M0) (M := M) (σ0 := σ0) (kd := 2) (dt := 0) h h40 hb hTb (by omega) hr a5 (by show S.1 < (ee tp N (p1 + 1)).2.1; omega) (show m ≤ m4 by omega) (by show m4 + 1 + S.1 ≤ m + (ee tp N (p1 + 1)).2.1; omega) ((((hnd.trans g2 (Nat.le_refl _)).trans g3 (by omega)).trans g4 (by omega)).trans g5 (by omega)) eo1.1 eo1.2.2.2 eo1.2.1 eo1.2.2.1 hPI hszF hj (fun f l q => by rw [eF2]; exact FE_keep hF1 (by omega) (FE_keep hF0 (by omega) q)) s5.2.2.2.2 (by
          refine Or.inr (Or.inl ⟨f2, ?_, ?_, ?_, ?_⟩)
          · rw [sUp_self, Int.toNat_natCast]; exact s5.1
          · rw [sUp_self, Int.toNat_natCast, eD]; exact s5.2.2.2.1
          · rw [sUp_self, Int.toNat_natCast, s5.2.1, f3]
            obtain ⟨k4, k5⟩ := exB_nd ((g3.trans g4 (by omega)).trans g5 (by omega)) (Nat.le_refl _) _ _ k2
            refine EqR_new (S := S) (g := g) (l := L1) (by rw [eF2]; exact FE_keep hF1 (by omega) (FE_new hF0 hg hg150)) k4 (by omega) (fun vals hvals => (k5 vals).trans (k3 vals hvals)) (by omega) hg
          · rw [sUp_self, Int.toNat_natCast, s5.2.2.1, f3]
            obtain ⟨k4, k5⟩ := exB_nd g5 (Nat.le_refl _) _ _ w2
            refine EqR_new (S := S) (g := g + 1) (l := (ee tp N (p1 + 1)).2.2) (by rw [eF2]; exact FE_new hF1 hg1 hg2) k4 (by omega) (fun vals hvals => (k5 vals).trans (w3 vals hvals)) (by omega) (by omega))
        have := q1 _ _ _ _ r1 r2 r3 r4
        rw [sUp_self] at this
        exact this
      · have hf := fails_step (tp := tp) (N := N) (n := n) (S := S) hpn (by rw [hst, hz1]; exact d4.resolve_right w1)
        rw [hst, hz1] at hf
        exact n_writes_fault hM (Int.natCast_nonneg _) hTb a4 fun x => ⟨a4.1, q0 M4 _ p4 m4 _ _ x a4 hf (((hnd.trans g2 (Nat.le_refl _)).trans g3 (by omega)).trans g4 (by omega)) (Int.le_refl _) (by omega)⟩
    refine n_peek hT a2 hM (by omega) ⟨a2.1, fun c1 => ⟨fun cf => absurd cf (by omega), fun _ => sign (Or.inl c1)⟩, fun c1 => ⟨fun c2 => ⟨fun cf => absurd cf (by omega), fun _ => sign (Or.inr (Or.inl c2))⟩, fun c2 => ⟨fun c3 => ⟨fun cf => absurd cf (by omega), fun _ => sign (Or.inr (Or.inr (Or.inl c3)))⟩, fun c3 => ⟨fun c4 => ⟨fun cf => absurd cf (by omega), fun _ => sign (Or.inr (Or.inr (Or.inr c4)))⟩, fun c4 => ?_⟩⟩⟩⟩
    have hns : ¬ zSg (tp p1) := fun q => by
      rcases q with q | q | q | q
      · exact c1 q
      · exact c2 q
      · exact c3 q
      · exact c4 q
    rw [if_neg hns] at hz1
    have hf := fails_step (tp := tp) (N := N) (n := n) (S := S) hpn (by rw [hst, hz1])
    rw [hst, hz1] at hf
    have hf : Fails tp N n S p1 := by rw [← ep1]; exact hf
    refine n_wrong a2 hM fun M3 a3 g3 => ⟨a3.1, ?_⟩
    rw [if_neg (by decide), e2'] at a3
    exact q0 M3 p1 _ _ _ _ _ a3 hf ((hnd.trans g2 (Nat.le_refl _)).trans g3 (by omega)) (Int.le_refl _) (by omega)
  · obtain ⟨z1, z2, z3⟩ := fltAll M2 _ p2 m2 _ x a2 (hbad k1) (hnd.trans g2 (Nat.le_refl _))
    exact n_peek hT a2 hM (by omega) ⟨a2.1, fun c1 => ⟨fun _ => z2 _, fun cf => absurd z1 cf⟩, fun c1 => ⟨fun c2 => ⟨fun _ => z2 _, fun cf => absurd z1 cf⟩, fun c2 => ⟨fun c3 => ⟨fun _ => z2 _, fun cf => absurd z1 cf⟩, fun c3 => ⟨fun c4 => ⟨fun _ => z2 _, fun cf => absurd z1 cf⟩, fun c4 => z3⟩⟩⟩⟩
end SIMPLE3
