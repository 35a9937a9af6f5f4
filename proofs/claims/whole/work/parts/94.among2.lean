/-! among on both sides: its loop -/
section AMONG2
variable {K M0 : ZMem} {tp : Nat → Int} {n N T : Nat}
/-- where the class stands behind i of an among's E -/
def AI (n : Nat) (S : St) (v : Int) (g i : Nat) (S1 : St) : Prop := PI S1 ∧ S1.1 ≤ n ∧ S.1 + 2 < S1.1 ∧ (S1.2.1 = S.2.1 ∧ S1.2.2.1 = S.2.2.1 ∧ S1.2.2.2.1 = fup S.2.2.2.1 S.2.1 (zsz S) ∧ S1.2.2.2.2.1 = 0) ∧ (zg S1).1 = (pNew S 4 v).1 ∧ zsz S1 = zsz S + 1 ∧ (∀ f l, FE (zg S).2.1 f l → FE (zg S1).2.1 f l) ∧ (zg S1).2.1.2.2.2.2 = ((g + i : Nat) : Int)
/-- behind the last of them -/
theorem am_end {d : Nat} (hT : Tp tp n) (hM : ModelAt K 2230) (hTb : T < 270) (hd : 5 ≤ d) {M : ZMem} {S : St} {m : Nat} {v : Int} {σ0 : Int → Int} {Q : Int → ZMem → Prop} (h : SI n S) (hdue : S.2.2.2.2.1 = 1) (h40 : zsz S < 40) (hb : S.2.2.2.1 S.2.1 < zsz S) (hm : m ≤ S.1) (hv : 0 ≤ v ∧ v < 8)
    (q1 : ∀ M' S' m' σ, StP K M0 M tp n N T S m σ0 M' S' m' σ → S'.2.2.2.1 S.2.1 = zsz S → gBehind (zg S') (zsz S) = -1 → mI M' 2236 (σ (zsz S)).toNat = -1 → Q (σ (zsz S)) M') (q0 : SFail K M0 M tp n N T S m Q)
    {S1 : St} {M1 : ZMem} {m1 g i : Nat} {F L : Int} (hi : 1 ≤ i ∧ i ≤ 6) (hz : zStmt tp N S = zSign tp 125 S1) (hA : AI n S v g i S1) (hg : (zg S).2.1.2.2.2.2 = g) (hn : NM K M0 M1 tp n T S1.1 (-1) S.2.1 (zsz S + 1) m1) (hm1 : m ≤ m1 ∧ m1 + S.1 + 2 ≤ m + S1.1) (hnd : ndB (T * 260 + m) M M1) (hc : CH M1 (zg S1).2.1 (T * 260 + m) (T * 260 + m1) g i F L) :
    Xi (d + 1) q10_readsChoose 45 [some (zr 2230), some (zi v), some (zi F), some (zi L), some (zi (i : Int)), some (zi 0), none, none] [] M1 Q := by
  have hn150 := hT.1
  have hpn := h.2.1
  have hst := step_due (tp := tp) (N := N) (n := n) hdue
  obtain ⟨a1, a2, a3, a4, a5, a6, a7, a8⟩ := hA
  refine B10_readsChoose_45 v F L i 0 hn.1 hM ⟨fun _ => ?_, fun c => absurd rfl c⟩
  refine n_wants hT hn hM (by omega) (by decide) (fun c => absurd c (by decide)) (fun _ c M3 b3 g3 => ⟨b3.1, ?_⟩) (fun _ c hin M3 b3 g3 => ⟨b3.1, ?_⟩)
  · have hzz : zStep tp N n S = (0, S1) := by
      rw [hst, hz]; unfold zSign; exact if_neg c
    have hf := fails_step (tp := tp) (N := N) (n := n) (S := S) hpn (by rw [hzz])
    rw [hzz] at hf
    exact n_writes_fault hM (Int.natCast_nonneg _) hTb b3 fun x => ⟨b3.1, q0 M3 S1.1 _ _ _ _ x b3 hf (hnd.trans g3 (by omega)) (Int.le_refl _) (by omega)⟩
  · have hzz : zStep tp N n S = (1, zP S1 (S1.1 + 1)) := by
      rw [hst, hz]; unfold zSign; exact if_pos c
    refine n_writes b3 hM hTb (fun _ => by omega) (fun c => absurd c (by decide)) fun _ M5 a5' g5 s5 => ⟨a5'.1, ?_⟩
    have hr := reach_step (tp := tp) (N := N) (n := n) (S := S) hpn (by rw [hzz]) (by rw [hzz]; show S.1 < S1.1 + 1; omega)
    rw [hzz] at hr
    have hPI : PI (zP S1 (S1.1 + 1)) := PI_zP a1 (by omega)
    have hj : ∀ j t : Nat, (j ≠ 1 ∨ (t : Int) ≠ zsz S) → (zg (zP S1 (S1.1 + 1))).1 j t = (pNew S 4 v).1 j t := fun j t _ => by
      show (zg S1).1 j t = _
      rw [a5]
    obtain ⟨p1', p2', p3'⟩ := pNew_lo (kd := 4) (dt := v) h h40 hb
    have hszF : zsz (zP S1 (S1.1 + 1)) = zsz S + 1 := a6
    obtain ⟨f1, f2, f3, f4, f5, f6, f7, f8⟩ := new_facts (S' := zP S1 (S1.1 + 1)) (kd := 4) (dt := v) h h40 hb (by omega) (by omega) (fun j t q _ => hj j t (by omega)) (by rw [hj 3 _ (by omega)]; exact p2')
    have eD : gDetail (zg (zP S1 (S1.1 + 1))) (zsz S) = v := by
      rw [f7]
      show (zg S1).1 1 _ = v
      rw [a5]; exact pNew_det
    have efn : gForm (zg (zP S1 (S1.1 + 1))) (zsz S + 1) = ((g + i : Nat) : Int) := by
      unfold gForm
      rw [if_neg]
      · exact a8
      · intro q
        have := q.2.1
        have e : (zg (zP S1 (S1.1 + 1))).2.2.2 = zsz S + 1 := a6
        omega
    obtain ⟨c1, c2, c3, c4⟩ := hc
    have hB : Kp (T * 260 + m) (T * 260 + m1) M1 M5 := Kp.nd (g3.trans g5 (Nat.le_refl _)) (Nat.le_refl _)
    have ep : ∀ j : Nat, j ≤ i → pk M5 F j = pk M1 F j := fun j hj => pk_kp hB j fun k hk => (c1 k (by omega)).1
    obtain ⟨r1, r2, r3, r4⟩ := StP_simple (M0 := M0) (M := M) (σ0 := σ0) (kd := 4) (dt := v) h h40 hb hTb (by omega) hr a5' (by show S.1 < S1.1 + 1; omega) (show m ≤ m1 by omega) (by show m1 + 1 + S.1 ≤ m + (S1.1 + 1); omega) ((hnd.trans g3 (by omega)).trans g5 (by omega)) a4.1 a4.2.2.2 a4.2.1 a4.2.2.1 hPI hszF hj a7 s5.2.2.2.2 (by
      refine Or.inr (Or.inr (Or.inr (Or.inl ⟨f2, ?_, ?_, ?_, ?_, ?_, ?_, ?_⟩)))
      · rw [sUp_self, Int.toNat_natCast]; exact s5.1
      · rw [sUp_self, Int.toNat_natCast, eD]; exact s5.2.1
      · rw [eD]; exact hv
      · rw [sUp_self, Int.toNat_natCast, s5.2.2.2.1, efn, f3, hg]; omega
      · rw [sUp_self, Int.toNat_natCast, s5.2.2.2.1]; omega
      · intro j hj
        rw [sUp_self, Int.toNat_natCast, s5.2.2.2.1] at hj
        rw [sUp_self, Int.toNat_natCast, s5.2.2.1, ep j (by omega), f3, hg]
        obtain ⟨d1, d2⟩ := c1 j (by omega)
        have d3 := d1.kp hB
        have d4 := d1.1
        refine ⟨⟨⟨d3.1.1, by omega⟩, d3.2⟩, ?_⟩
        rw [hB.1 2233 _ (by omega) (by omega) (by omega)]
        obtain ⟨g1, l, k, e1, e2, e3, e4, e5⟩ := d2
        have q := exB_kp (M := M1) (M' := M5) (b := T * 260 + m1) hB.1 k _ e3
        exact ⟨g1, l, k, by omega, e2, (exB_mono (by omega) 0 k q.1).1, e4, fun vals hv => (q.2 vals).trans (e5 vals hv)⟩
      · rw [sUp_self, Int.toNat_natCast, s5.2.2.2.1, s5.2.2.1, Int.toNat_natCast, ep i (Nat.le_refl _)]
        exact c3)
    have := q1 _ _ _ _ r1 r2 r3 r4
    rw [sUp_self] at this
    exact this
theorem am_item {d : Nat} (hT : Tp tp n) (hM : ModelAt K 2230) (hTb : T < 270) (hN : n < N) (hd : N + 6 ≤ d) {M : ZMem} {S : St} {m : Nat} {v : Int} {σ0 : Int → Int} {Q : Int → ZMem → Prop} (h : SI n S) (hdue : S.2.2.2.2.1 = 1) (h40 : zsz S < 40) (hb : S.2.2.2.1 S.2.1 < zsz S) (hm : m ≤ S.1) (hv : 0 ≤ v ∧ v < 8)
    (q1 : ∀ M' S' m' σ, StP K M0 M tp n N T S m σ0 M' S' m' σ → S'.2.2.2.1 S.2.1 = zsz S → gBehind (zg S') (zsz S) = -1 → mI M' 2236 (σ (zsz S)).toNat = -1 → Q (σ (zsz S)) M') (q0 : SFail K M0 M tp n N T S m Q) (g : Nat) (hg : (zg S).2.1.2.2.2.2 = g) (j i : Nat) (hi : i + (j + 1) = 6)
    (next : 1 ≤ j → ∀ (S1 : St) (M1 : ZMem) (m1 : Nat) (F L l5 : Int), l5 ≠ 0 → zStmt tp N S = zAmong tp N j S1 → AI n S v g (i + 1) S1 → NM K M0 M1 tp n T S1.1 (-1) S.2.1 (zsz S + 1) m1 → (m ≤ m1 ∧ m1 + S.1 + 3 ≤ m + S1.1) → ndB (T * 260 + m) M M1 → CH M1 (zg S1).2.1 (T * 260 + m) (T * 260 + m1) g (i + 1) F L →
      Xi (d + 1) q10_readsChoose 45 [some (zr 2230), some (zi v), some (zi F), some (zi L), some (zi ((i + 1 : Nat) : Int)), some (zi l5), none, none] [] M1 Q)
    (S1 : St) (M1 : ZMem) (m1 : Nat) (F L l5 : Int) (h5 : l5 ≠ 0) (hz : zStmt tp N S = zAmong tp N (j + 1) S1) (hA : AI n S v g i S1) (hn : NM K M0 M1 tp n T S1.1 (-1) S.2.1 (zsz S + 1) m1) (hm1 : m ≤ m1 ∧ m1 + S.1 + 3 ≤ m + S1.1) (hnd : ndB (T * 260 + m) M M1) (hc : CH M1 (zg S1).2.1 (T * 260 + m) (T * 260 + m1) g i F L) :
    Xi (d + 1) q10_readsChoose 45 [some (zr 2230), some (zi v), some (zi F), some (zi L), some (zi (i : Int)), some (zi l5), none, none] [] M1 Q := by
  have hn150 := hT.1
  have hpn := h.2.1
  have hst := step_due (tp := tp) (N := N) (n := n) hdue
  obtain ⟨a1, a2, a3, a4, a5, a6, a7, a8⟩ := hA
  have e3 := hn.2.2.1.2.1
  have eii : ((i + 1 : Nat) : Int) = (i : Int) + 1 := by omega
  obtain ⟨b1, b2, b3, b4, b5⟩ := ee_b hT hN a2
  refine B10_readsChoose_45 v F L i l5 hn.1 hM ⟨fun c => absurd c h5, fun _ => ⟨fun c => absurd c (by omega), fun _ => ?_⟩⟩
  refine n_sum hT hM hTb hN hd a2 (by omega) hn (fun k1 M2 m2 x c2 g2 l1 l2 k2 k3 => ⟨c2.1, ?_⟩) (fun k1 M2 p2 m2 x c2 g2 => ⟨c2.1, ?_⟩)
  · have b5 := b5 k1
    refine n_writes c2 hM hTb (fun _ => by omega) (fun c => absurd c (by decide)) fun _ M3 c3 g3 s3 => ⟨c3.1, ?_⟩
    have hz1 : zStmt tp N S = if tp (ee tp N S1.1).2.1 = 44 then zAmong tp N j (if j = 0 then (zForm tp N S1).2 else zP (zForm tp N S1).2 ((ee tp N S1.1).2.1 + 1)) else zSign tp 125 (zForm tp N S1).2 := by
      rw [hz, zAmong]; unfold zThen; exact if_pos k1
    have hF0 : 0 ≤ (zg S1).2.1.2.2.2.1 := a1.2.2.1.1
    have hgi : g + i < 150 := by
      have := a1.2.2.2.1.2
      omega
    have hPI := zForm_pi' hT hN a1 a2 k1
    have eF : (zg (zForm tp N S1).2).2.1 = fApp (fSt (zg S1).2.1) (ee tp N S1.1).2.2 := rfl
    have hF : ∀ f l, FE (zg S1).2.1 f l → FE (zg (zForm tp N S1).2).2.1 f l := fun f l q => FE_keep hF0 (by omega) q
    have hNew : FE (zg (zForm tp N S1).2).2.1 (g + i) (ee tp N S1.1).2.2 := FE_new hF0 a8 hgi
    have hcnt : (zg (zForm tp N S1).2).2.1.2.2.2.2 = ((g + (i + 1) : Nat) : Int) := by
      obtain ⟨i1, i2, _⟩ := fApp_f (fSt (zg S1).2.1) hF0 (ee tp N S1.1).2.2
      rw [eF, i2]
      show (zg S1).2.1.2.2.2.2 + 1 = _
      omega
    have hA2 : AI n S v g (i + 1) (zForm tp N S1).2 := ⟨hPI, b2, by show S.1 + 2 < (ee tp N S1.1).2.1; omega, a4, a5, a6, fun f l q => hF f l (a7 f l q), hcnt⟩
    have ep : (zForm tp N S1).2.1 = (ee tp N S1.1).2.1 := rfl
    have hE : EqR M3 (zg (zForm tp N S1).2).2.1 (T * 260 + (m2 + 1)) ((g + i : Nat) : Int) x := by
      obtain ⟨k4, k5⟩ := exB_nd g3 (Nat.le_refl _) _ _ k2
      exact ⟨g + i, (ee tp N S1.1).2.2, (ee tp N S1.1).2.1 - S1.1, rfl, hNew, (exB_mono (by omega) 0 _ k4).1, by omega, fun vals hv => (k5 vals).trans (k3 vals hv)⟩
    have hnd3 : ndB (T * 260 + m1) M1 M3 := g2.trans g3 (by omega)
    generalize (zForm tp N S1).2 = S2 at *
    generalize (ee tp N S1.1).2.1 = p2 at *
    have leaf : ∀ (M4 : ZMem) (F' L' : Int), NM K M0 M4 tp n T p2 (-1) S.2.1 (zsz S + 1) (m2 + 1) → ndB (T * 260 + m) M M4 → CH M4 (zg S2).2.1 (T * 260 + m) (T * 260 + (m2 + 1)) g (i + 1) F' L' → AmLeaf K d v F' L' i M4 Q := fun M4 F' L' c4 g4 hc4 => by
      have fin : tp p2 ≠ 44 → Xi (d + 1) q10_readsChoose 45 [some (zr 2230), some (zi v), some (zi F'), some (zi L'), some (zi ((i : Int) + 1)), some (zi 0), none, none] [] M4 Q := fun ne => by
        have := am_end (N := N) (d := d) (m1 := m2 + 1) (i := i + 1) hT hM hTb (by omega) h hdue h40 hb hm hv q1 q0 (by omega) (by rw [hz1, if_neg ne]) hA2 hg (by rw [ep]; exact c4) (by rw [ep]; omega) g4 hc4
        rw [eii] at this
        exact this
      refine ⟨⟨by omega, by omega⟩, fun c6 => n_takes hT c4 hM (by omega) (by decide) (fun c => absurd c (by decide)) (fun _ ne => ⟨c4.1, fin ne⟩) (fun _ e hin M5 c5 g5 => ⟨c5.1, ?_⟩), fun c6 => n_peek hT c4 hM (by omega) ⟨c4.1, fun ne => n_takes hT c4 hM (by omega) (by decide) (fun c => absurd c (by decide)) (fun _ ne => ⟨c4.1, fin ne⟩) (fun _ e _ => absurd e ne), fun e => ?_⟩⟩
      · rw [if_pos e, if_neg (by omega)] at hz1
        obtain ⟨y1, y2, y3, y4, y5, y6, y7, y8⟩ := hA2
        have hB : Kp (T * 260 + m) (T * 260 + (m2 + 1)) M4 M5 := Kp.nd g5 (Nat.le_refl _)
        obtain ⟨w1, w2, w3, w4⟩ := hc4
        have epk : ∀ t : Nat, t ≤ i + 1 → pk M5 F' t = pk M4 F' t := fun t ht => pk_kp hB t fun k hk => (w1 k (by omega)).1
        have := next (by omega) (zP S2 (p2 + 1)) M5 (m2 + 1) F' L' 1 (by decide) hz1 ⟨PI_zP y1 (by omega), by show p2 + 1 ≤ n; omega, by show S.1 + 2 < p2 + 1; omega, y4, y5, y6, y7, y8⟩ c5 (by show m ≤ m2 + 1 ∧ m2 + 1 + S.1 + 3 ≤ m + (p2 + 1); omega) (g4.trans g5 (by omega)) ⟨fun t ht => ?_, fun a b h1 h2 => ?_, ?_, fun _ => ?_⟩
        · rw [eii] at this
          exact this
        · rw [epk t (by omega)]
          obtain ⟨r1, r2⟩ := w1 t ht
          have := r1.1
          refine ⟨r1.kp hB, ?_⟩
          rw [hB.1 2233 _ (by omega) (by omega) (by omega)]
          exact r2.kp hB.1 fun _ _ q => q
        · rw [epk a (by omega), epk b (by omega)]; exact w2 a b h1 h2
        · rw [epk _ (Nat.le_refl _)]; exact w3
        · rw [epk _ (by omega)]; exact w4 (by omega)
      · have e : tp p2 = 44 := by
          by_cases q : tp p2 = 44
          · exact q
          · exact absurd q e
        rw [if_pos e] at hz1
        have hj : j = 0 := by omega
        rw [if_pos hj, hj, zAmong] at hz1
        have hzz : zStep tp N n S = (0, S2) := by rw [hst, hz1]
        have hf := fails_step (tp := tp) (N := N) (n := n) (S := S) hpn (by rw [hzz])
        rw [hzz] at hf
        have e2' := c4.2.2.1.1
        refine n_wrong c4 hM fun M5 c5 g5 => ⟨c5.1, ?_⟩
        rw [if_neg (by decide), e2'] at c5
        exact n_takes hT c5 hM (by omega) (by decide) (fun _ => ⟨c5.1, am_fault hT hM hTb (by omega) (Int.natCast_nonneg _) c5 fun y M6 c7 g7 => q0 M6 p2 _ _ _ _ y c7 (by rw [← ep]; exact hf) ((g4.trans g5 (by omega)).trans (g7 _) (Nat.le_refl _)) (Int.le_refl _) (by omega)⟩) (fun c => absurd (Int.natCast_nonneg _) c) (fun c => absurd (Int.natCast_nonneg _) c)
    have e33 := c3.2.2.1.2.1
    refine ⟨fun c0 => ⟨fun c => absurd c (by omega), fun _ => ⟨fun c => absurd c (by omega), fun _ => ?_⟩⟩, fun c0 => ⟨fun _ => ?_, fun c => absurd c (by omega)⟩⟩
    · have hL := hc.2.2.2 (by omega)
      obtain ⟨⟨⟨p1, p2'⟩, _⟩, _⟩ := hc.1 (i - 1) (by omega)
      rw [← hL] at p1 p2'
      refine ⟨by omega, by omega, leaf _ F _ (c3.node (by omega) (by omega)) (fun a t t1 t2 t3 => ?_) (CH_next hc (by omega) (by omega) hnd3 s3 (by omega) (by omega) hF hE)⟩
      rw [mI_sI, if_neg (by omega)]
      exact (hnd.trans hnd3 (by omega)) a t t1 t2 t3
    · have i0 : i = 0 := by omega
      subst i0
      exact leaf _ _ _ c3 (hnd.trans hnd3 (by omega)) (CH_first s3 (by omega) (by omega) hE)
  · have hz1 : zStmt tp N S = zForm tp N S1 := by
      rw [hz, zAmong]; unfold zThen; exact if_neg k1
    have hf := fails_step (tp := tp) (N := N) (n := n) (S := S) hpn (by rw [hst, hz1]; exact b4.resolve_right k1)
    rw [hst, hz1] at hf
    have lf : ∀ (M4 : ZMem) (F' L' : Int), NM K M0 M4 tp n T p2 ((ee tp N S1.1).2.1 : Nat) S.2.1 (zsz S + 1) m2 → (∀ b, ndB b M2 M4) → AmLeaf K d v F' L' i M4 Q := fun M4 F' L' c4 g4 => am_leaf_fault hT hM hTb (by omega) (Int.natCast_nonneg _) (by omega) c4 fun y M6 c7 g7 => q0 M6 _ _ _ _ _ y c7 hf (((hnd.trans g2 (by omega)).trans (g4 _) (Nat.le_refl _)).trans (g7 _) (Nat.le_refl _)) (Int.le_refl _) (by omega)
    have e33 := c2.2.2.1.2.1
    exact n_writes_fault hM (Int.natCast_nonneg _) hTb c2 fun y => ⟨c2.1, fun c0 => ⟨fun c => absurd c (by omega), fun _ => ⟨fun _ => lf M2 _ _ c2 fun b => ndB.refl, fun c => absurd (by omega) c⟩⟩, fun c0 => ⟨fun _ => lf M2 _ _ c2 fun b => ndB.refl, fun c => absurd c (by omega)⟩⟩
theorem am_loop {d : Nat} (hT : Tp tp n) (hM : ModelAt K 2230) (hTb : T < 270) (hN : n < N) (hd : N + 6 ≤ d) {M : ZMem} {S : St} {m : Nat} {v : Int} {σ0 : Int → Int} {Q : Int → ZMem → Prop} (h : SI n S) (hdue : S.2.2.2.2.1 = 1) (h40 : zsz S < 40) (hb : S.2.2.2.1 S.2.1 < zsz S) (hm : m ≤ S.1) (hv : 0 ≤ v ∧ v < 8)
    (q1 : ∀ M' S' m' σ, StP K M0 M tp n N T S m σ0 M' S' m' σ → S'.2.2.2.1 S.2.1 = zsz S → gBehind (zg S') (zsz S) = -1 → mI M' 2236 (σ (zsz S)).toNat = -1 → Q (σ (zsz S)) M') (q0 : SFail K M0 M tp n N T S m Q) (g : Nat) (hg : (zg S).2.1.2.2.2.2 = g) : ∀ (j i : Nat), i + (j + 1) = 6 → ∀ (S1 : St) (M1 : ZMem) (m1 : Nat) (F L l5 : Int), l5 ≠ 0 → zStmt tp N S = zAmong tp N (j + 1) S1 → AI n S v g i S1 → NM K M0 M1 tp n T S1.1 (-1) S.2.1 (zsz S + 1) m1 → (m ≤ m1 ∧ m1 + S.1 + 3 ≤ m + S1.1) → ndB (T * 260 + m) M M1 → CH M1 (zg S1).2.1 (T * 260 + m) (T * 260 + m1) g i F L →
    Xi (d + 1) q10_readsChoose 45 [some (zr 2230), some (zi v), some (zi F), some (zi L), some (zi (i : Int)), some (zi l5), none, none] [] M1 Q
  | 0, i, hi => am_item hT hM hTb hN hd h hdue h40 hb hm hv q1 q0 g hg 0 i hi fun c => absurd c (by decide)
  | j + 1, i, hi => am_item hT hM hTb hN hd h hdue h40 hb hm hv q1 q0 g hg (j + 1) i hi fun _ => am_loop hT hM hTb hN hd h hdue h40 hb hm hv q1 q0 g hg j (i + 1) (by omega)
/-- choose: among and up to -/
theorem n_choose {d : Nat} (hT : Tp tp n) (hM : ModelAt K 2230) (hTb : T < 270) (hN : n < N) (hd : N + 7 ≤ d) {M M1 : ZMem} {S : St} {m : Nat} {v : Int} {σ0 : Int → Int} {Q : Int → ZMem → Prop} (h : SI n S) (hdue : S.2.2.2.2.1 = 1) (h40 : zsz S < 40) (hb : S.2.2.2.1 S.2.1 < zsz S) (hm : m ≤ S.1) (hv : 0 ≤ v ∧ v < 8) (hz : zStmt tp N S = zChoose tp N (zP S (S.1 + 2)) v) (hlt : S.1 + 2 ≤ n) (hn : NM K M0 M1 tp n T (S.1 + 2) (-1) S.2.1 (zsz S + 1) m) (hnd : ndB (T * 260 + m) M M1)
    (q1 : ∀ M' S' m' σ, StP K M0 M tp n N T S m σ0 M' S' m' σ → S'.2.2.2.1 S.2.1 = zsz S → gBehind (zg S') (zsz S) = -1 → mI M' 2236 (σ (zsz S)).toNat = -1 → Q (σ (zsz S)) M') (q0 : SFail K M0 M tp n N T S m Q) : Ci d q10_readsChoose [zr 2230, zi v] M1 Q := by
  obtain ⟨d, rfl⟩ : ∃ e, d = e + 1 := ⟨d - 1, by omega⟩
  have hn150 := hT.1
  refine B10_readsChoose v hn.1 hM (n_takes hT hn hM (by omega) (by decide) (fun c => absurd c (by decide)) (fun _ ne => ⟨hn.1, fun c => absurd rfl c, fun _ => ?_⟩) (fun _ e hin M2 a2 g2 => ⟨a2.1, fun _ => ?_, fun c => absurd (by decide) c⟩))
  · exact n_range hT hM hTb hN (by omega) h hdue h40 hb hm hv ne hz hlt hn hnd q1 q0
  · obtain ⟨hF0, g, hg, hg150⟩ := PI.fm hT h.1 (by omega)
    have hpiA := zAdd_pi (PI_zP h.1 (p := S.1 + 2) (by omega)) h40 (by show S.1 + 2 ≤ 150; omega) (kd := 4) (dt := v) (by omega)
    have e2 := zAdd_2 (S := zP S (S.1 + 2)) (kd := 4) (dt := v)
    have eF : (zg (zAdd (zP S (S.1 + 2)) 4 v)).2.1 = (zg S).2.1 := congrArg (fun x => x.1) e2
    have hz1 : zStmt tp N S = zAmong tp N 6 (zP (zAdd (zP S (S.1 + 2)) 4 v) (S.1 + 2 + 1)) := by
      rw [hz]; unfold zChoose; exact if_pos e
    refine am_loop hT hM hTb hN (by omega) h hdue h40 hb hm hv q1 q0 g hg 5 0 rfl _ M2 m (-1) (-1) 1 (by decide) hz1 ⟨PI_zP hpiA (by show S.1 + 2 ≤ S.1 + 2 + 1; omega), by show S.1 + 2 + 1 ≤ n; omega, by show S.1 + 2 < S.1 + 2 + 1; omega, ⟨rfl, rfl, rfl, rfl⟩, rfl, congrArg (fun x : Fm × Fm × Int => x.2.2) e2, fun f l q => ?_, ?_⟩ a2 (by show m ≤ m ∧ m + S.1 + 3 ≤ m + (S.1 + 2 + 1); omega) (hnd.trans g2 (Nat.le_refl _)) ⟨fun j hj => absurd hj (by omega), fun a b _ hb => absurd hb (by omega), rfl, fun c => absurd c (by decide)⟩
    · show FE (zg (zAdd (zP S (S.1 + 2)) 4 v)).2.1 f l
      rw [eF]; exact q
    · show (zg (zAdd (zP S (S.1 + 2)) 4 v)).2.1.2.2.2.2 = _
      rw [eF]; exact hg
end AMONG2
