/-! assign, up to, test on both sides -/
theorem er_codes {tp : Nat → Int} {n N : Nat} (hT : Tp tp n) (hN : n < N) : ∀ (f p : Nat) (j : Int) (l : FL), p ≤ n → (∀ c ∈ l, -2000 ≤ c.2 ∧ c.2 ≤ 2000) → ∀ c ∈ (er tp N f p j l).2.2, -2000 ≤ c.2 ∧ c.2 ≤ 2000
  | 0, p, j, l, hp, hl => hl
  | f + 1, p, j, l, hp, hl => by
    obtain ⟨u1, u2, u3, u4, u5, u6⟩ := un_b hT N p hp (by omega)
    have hl' : ∀ c ∈ l ++ [(j, (un tp N p).2.2)], -2000 ≤ c.2 ∧ c.2 ≤ 2000 := fun c hc => by
      rcases List.mem_append.mp hc with q | q
      · exact hl c q
      · rw [List.mem_singleton.mp q]
        exact ⟨by show -2000 ≤ (un tp N p).2.2; omega, by show (un tp N p).2.2 ≤ 2000; omega⟩
    by_cases c : (un tp N p).1 = 1
    · rw [er_ok c, er2]
      split
      · exact hl'
      · rename_i c2
        exact er_codes hT hN f _ _ _ (by have := jo_in hT c2; omega) hl'
    · rw [er_bad c]; exact hl
theorem FA_app {F : Fm} : ∀ (l : FL), FA F → (∀ c ∈ l, -2000 ≤ c.2 ∧ c.2 ≤ 2000) → FA (fApp F l) := by
  intro l
  induction l generalizing F with
  | nil => exact fun h _ => h
  | cons c l ih => exact fun h hl => ih (F := fAddF F c) (FA_add h (hl c (List.mem_cons_self ..))) fun c' hc' => hl c' (List.mem_cons_of_mem _ hc')
section SIMPLE2
variable {K M0 : ZMem} {tp : Nat → Int} {n N T : Nat}
theorem n_wants_fault {d p m : Nat} {f op td x : Int} {M : ZMem} {Q : ZMem → Prop} (hT : Tp tp n) (hM : ModelAt K 2230) (hd : 3 ≤ d) (hf : 0 ≤ f) (hx : 1 ≤ x) (h : NM K M0 M tp n T p f op td m) (q : ∀ M', NM K M0 M' tp n T p f op td m → (∀ b, ndB b M M') → Q M') : Cv d q10_wants [zr 2230, zi x] M Q := by
  obtain ⟨d, rfl⟩ : ∃ e, d = e + 1 := ⟨d - 1, by omega⟩
  have e3 := h.2.2.1.2.1
  refine B10_wants x h.1 hM (n_takes hT h hM (by omega) hx (fun _ => ⟨h.1, fun c2 => absurd rfl c2, fun _ => B10_wrong _ h.1 hM ⟨fun c => ?_, fun c => absurd (by omega) c⟩⟩) (fun c => absurd hf c) (fun c => absurd hf c))
  have a := h.fault (x := mI M 2230 3)
  rw [e3] at a ⊢
  exact ⟨a.1, q _ a fun b => ndB.refl.sc⟩
theorem ee_codes (hT : Tp tp n) (hN : n < N) {p : Nat} (hp : p ≤ n) : ∀ c ∈ (ee tp N p).2.2, -2000 ≤ c.2 ∧ c.2 ≤ 2000 := er_codes hT hN N p 0 [] hp (fun c hc => by cases hc)
theorem zForm_pi' (hT : Tp tp n) (hN : n < N) {S : St} (h : PI S) (hp : S.1 ≤ n) (he : (ee tp N S.1).1 = 1) : PI (zForm tp N S).2 :=
  zForm_pi hT hN h hp he (FA_app _ (FA_st h.2.1.2.2.2.2.1 h.2.2.1.1 (by have := hT.1; have := h.2.2.1.2; omega)) (ee_codes hT hN hp))
theorem PI_zP {S : St} {p : Nat} (h : PI S) (hp : S.1 ≤ p) : PI (zP S p) := by
  obtain ⟨p1, p2, p3, p4, p5, p6⟩ := h
  refine ⟨p1, p2, ⟨p3.1, ?_⟩, ⟨p4.1, ?_⟩, p5, p6⟩
  · have := p3.2
    show (zg S).2.1.2.2.2.1 ≤ (p : Int)
    omega
  · have := p4.2
    show (zg S).2.1.2.2.2.2 ≤ (p : Int)
    omega
theorem pNew_det {S : St} {kd dt : Int} : (pNew S kd dt).1 1 (zsz S).toNat = dt := by
  rw [pNew_at (by decide) (by decide), if_pos rfl, if_neg (by decide), if_pos rfl]
/-- the formulas of the draft, within bounds -/
theorem PI.fm (hT : Tp tp n) {S : St} (h : PI S) (hp : S.1 < n) : 0 ≤ (zg S).2.1.2.2.2.1 ∧ ∃ g : Nat, (zg S).2.1.2.2.2.2 = g ∧ g < 150 := by
  have := hT.1
  refine ⟨h.2.2.1.1, (zg S).2.1.2.2.2.2.toNat, ?_, ?_⟩
  · have := h.2.2.2.1.1; omega
  · have := h.2.2.2.1; omega
theorem n_assign {d : Nat} (hT : Tp tp n) (hM : ModelAt K 2230) (hTb : T < 270) (hN : n < N) (hd : N + 6 ≤ d) {M M1 : ZMem} {S : St} {m : Nat} {v : Int} {σ0 : Int → Int} {Q : Int → ZMem → Prop} (h : SI n S) (hdue : S.2.2.2.2.1 = 1) (h40 : zsz S < 40) (hb : S.2.2.2.1 S.2.1 < zsz S) (hm : m ≤ S.1) (hv : 0 ≤ v ∧ v < 8) (hz : zStmt tp N S = zForm tp N (zAdd (zP S (S.1 + 2)) 1 v)) (hlt : S.1 + 2 ≤ n) (hn : NM K M0 M1 tp n T (S.1 + 2) (-1) S.2.1 (zsz S + 1) m) (hnd : ndB (T * 260 + m) M M1)
    (q1 : ∀ M' S' m' σ, StP K M0 M tp n N T S m σ0 M' S' m' σ → S'.2.2.2.1 S.2.1 = zsz S → gBehind (zg S') (zsz S) = -1 → mI M' 2236 (σ (zsz S)).toNat = -1 → Q (σ (zsz S)) M') (q0 : SFail K M0 M tp n N T S m Q) : Ci d q10_readsSum [zr 2230] M1 (fun x2 M2 => KW K M2 ∧ Ci d q10_writes [zr 2230, zi 7, zi v, zi x2, zi 0] M2 (fun x3 M3 => KW K M3 ∧ Q x3 M3)) := by
  have hn150 := hT.1
  have hpn := h.2.1
  have hst := step_due (tp := tp) (N := N) (n := n) hdue
  have hpiA := zAdd_pi (PI_zP h.1 (p := S.1 + 2) (by omega)) h40 (by show S.1 + 2 ≤ 150; omega) (kd := 1) (dt := v) (by omega)
  obtain ⟨b1, b2, b3, b4, b5⟩ := ee_b hT hN hlt
  refine n_sum hT hM hTb hN hd hlt (by omega) hn (fun k1 M2 m2 x a2 g2 l1 l2 k2 k3 => ⟨a2.1, ?_⟩) (fun k1 M2 p2 m2 x a2 g2 => ⟨a2.1, ?_⟩)
  · have b5 := b5 k1
    obtain ⟨hF0, g, hg, hg150⟩ := PI.fm hT h.1 (by omega)
    refine n_writes a2 hM hTb (fun _ => by omega) (fun c => absurd c (by decide)) fun _ M3 a3 g3 s3 => ⟨a3.1, ?_⟩
    have hr := reach_step (tp := tp) (N := N) (n := n) (S := S) hpn (by rw [hst, hz]; exact k1) (by rw [hst, hz]; show S.1 < (ee tp N (S.1 + 2)).2.1; omega)
    rw [hst, hz] at hr
    have hPI := zForm_pi' hT hN hpiA (by show S.1 + 2 ≤ n; omega) k1
    have e2 := zAdd_2 (S := zP S (S.1 + 2)) (kd := 1) (dt := v)
    have eF : (zg (zAdd (zP S (S.1 + 2)) 1 v)).2.1 = (zg S).2.1 := congrArg (fun x => x.1) e2
    have eF' : (zg (zForm tp N (zAdd (zP S (S.1 + 2)) 1 v)).2).2.1 = fApp (fSt (zg S).2.1) (ee tp N (S.1 + 2)).2.2 := by rw [← eF]; rfl
    have hsz : zsz (zForm tp N (zAdd (zP S (S.1 + 2)) 1 v)).2 = zsz S + 1 := congrArg (fun x : Fm × Fm × Int => x.2.2) e2
    have hj : ∀ j t : Nat, (j ≠ 1 ∨ (t : Int) ≠ zsz S) → (zg (zForm tp N (zAdd (zP S (S.1 + 2)) 1 v)).2).1 j t = (pNew S 1 v).1 j t := fun _ _ _ => rfl
    obtain ⟨p1, p2, p3⟩ := pNew_lo (kd := 1) (dt := v) h h40 hb
    obtain ⟨f1, f2, f3, f4, f5, f6, f7, f8⟩ := new_facts (S' := (zForm tp N (zAdd (zP S (S.1 + 2)) 1 v)).2) (kd := 1) (dt := v) h h40 hb (by omega) (by omega) (fun _ _ _ _ => rfl) p2
    have eD : gDetail (zg (zForm tp N (zAdd (zP S (S.1 + 2)) 1 v)).2) (zsz S) = v := f7.trans pNew_det
    obtain ⟨r1, r2, r3, r4⟩ := StP_simple (M0 := M0) (M := M) (σ0 := σ0) (kd := 1) (dt := v) h h40 hb hTb (by omega) hr a3 (by show S.1 < (ee tp N (S.1 + 2)).2.1; omega) l1 (by show m2 + 1 + S.1 ≤ m + (ee tp N (S.1 + 2)).2.1; omega) ((hnd.trans g2 (Nat.le_refl _)).trans g3 (by omega)) rfl rfl rfl rfl hPI hsz hj (fun f l q => by rw [eF']; exact FE_keep hF0 (by omega) q) s3.2.2.2.2 (by
      refine Or.inl ⟨f2, ?_, ?_, ?_, ?_⟩
      · rw [sUp_self, Int.toNat_natCast]; exact s3.1
      · rw [sUp_self, Int.toNat_natCast, eD]; exact s3.2.1
      · rw [eD]; exact hv
      · rw [sUp_self, Int.toNat_natCast, s3.2.2.1, f3]
        obtain ⟨k4, k5⟩ := exB_nd g3 (Nat.le_refl _) _ _ k2
        refine EqR_new (S := S) (g := g) (l := (ee tp N (S.1 + 2)).2.2) (by rw [eF']; exact FE_new hF0 hg hg150) k4 (by omega) (fun vals hvals => (k5 vals).trans (k3 vals hvals)) (by omega) hg)
    have := q1 _ _ _ _ r1 r2 r3 r4
    rw [sUp_self] at this
    exact this
  · have hf := fails_step (tp := tp) (N := N) (n := n) (S := S) hpn (by rw [hst, hz]; exact b4.resolve_right k1)
    rw [hst, hz] at hf
    exact n_writes_fault hM (Int.natCast_nonneg _) hTb a2 fun x => ⟨a2.1, q0 M2 _ p2 m2 _ _ x a2 hf (hnd.trans g2 (Nat.le_refl _)) (Int.le_refl _) (by omega)⟩
theorem n_range {d : Nat} (hT : Tp tp n) (hM : ModelAt K 2230) (hTb : T < 270) (hN : n < N) (hd : N + 6 ≤ d) {M M1 : ZMem} {S : St} {m : Nat} {v : Int} {σ0 : Int → Int} {Q : Int → ZMem → Prop} (h : SI n S) (hdue : S.2.2.2.2.1 = 1) (h40 : zsz S < 40) (hb : S.2.2.2.1 S.2.1 < zsz S) (hm : m ≤ S.1) (hv : 0 ≤ v ∧ v < 8) (h123 : tp (S.1 + 2) ≠ 123) (hz : zStmt tp N S = zChoose tp N (zP S (S.1 + 2)) v) (hlt : S.1 + 2 ≤ n) (hn : NM K M0 M1 tp n T (S.1 + 2) (-1) S.2.1 (zsz S + 1) m) (hnd : ndB (T * 260 + m) M M1)
    (q1 : ∀ M' S' m' σ, StP K M0 M tp n N T S m σ0 M' S' m' σ → S'.2.2.2.1 S.2.1 = zsz S → gBehind (zg S') (zsz S) = -1 → mI M' 2236 (σ (zsz S)).toNat = -1 → Q (σ (zsz S)) M') (q0 : SFail K M0 M tp n N T S m Q) : Ci d q10_readsSum [zr 2230] M1 (fun x2 M2 => KW K M2 ∧ Cv d q10_wants [zr 2230, zi 44] M2 (fun M3 => KW K M3 ∧ Ci d q10_readsSum [zr 2230] M3 (fun x4 M4 => KW K M4 ∧ Ci d q10_writes [zr 2230, zi 8, zi v, zi x2, zi x4] M4 (fun x5 M5 => KW K M5 ∧ Q x5 M5)))) := by
  have hn150 := hT.1
  have hpn := h.2.1
  have hst := step_due (tp := tp) (N := N) (n := n) hdue
  have hpiA := zAdd_pi (PI_zP h.1 (p := S.1 + 2) (by omega)) h40 (by show S.1 + 2 ≤ 150; omega) (kd := 3) (dt := v) (by omega)
  obtain ⟨b1, b2, b3, b4, b5⟩ := ee_b hT hN hlt
  have e2 := zAdd_2 (S := zP S (S.1 + 2)) (kd := 3) (dt := v)
  have eF : (zg (zAdd (zP S (S.1 + 2)) 3 v)).2.1 = (zg S).2.1 := congrArg (fun x => x.1) e2
  have hz1 : zStmt tp N S = zThen (zForm tp N (zAdd (zP S (S.1 + 2)) 3 v)) fun S1 => zThen (zSign tp 44 S1) fun S2 => zForm tp N S2 := by
    rw [hz]; unfold zChoose; exact if_neg h123
  -- a fault, and nothing more is read
  have flt : ∀ (M2 : ZMem) (g p2 m2 : Nat) (td2 x2 : Int), NM K M0 M2 tp n T p2 g S.2.1 td2 m2 → Fails tp N n S g → ndB (T * 260 + m) M M2 → Ci d q10_readsSum [zr 2230] M2 (fun x4 M4 => KW K M4 ∧ Ci d q10_writes [zr 2230, zi 8, zi v, zi x2, zi x4] M4 (fun x5 M5 => KW K M5 ∧ Q x5 M5)) := fun M2 g p2 m2 td2 x2 a2 hf g2 =>
    n_sum_fault hT hM (by omega) (Int.natCast_nonneg _) a2 ⟨a2.1, n_writes_fault hM (Int.natCast_nonneg _) hTb a2 fun x => ⟨a2.1, q0 M2 g p2 m2 _ _ x a2 hf g2 (Int.le_refl _) (by omega)⟩⟩
  refine n_sum hT hM hTb hN hd hlt (by omega) hn (fun k1 M2 m2 x a2 g2 l1 l2 k2 k3 => ⟨a2.1, ?_⟩) (fun k1 M2 p2 m2 x a2 g2 => ⟨a2.1, ?_⟩)
  · have b5 := b5 k1
    obtain ⟨hF0, g, hg, hg150⟩ := PI.fm hT h.1 (by omega)
    have hPI1 := zForm_pi' hT hN hpiA (by show S.1 + 2 ≤ n; omega) k1
    have hz2 : zStmt tp N S = zThen (zSign tp 44 (zForm tp N (zAdd (zP S (S.1 + 2)) 3 v)).2) fun S2 => zForm tp N S2 := by
      rw [hz1]; unfold zThen; rw [if_pos (show (zForm tp N (zAdd (zP S (S.1 + 2)) 3 v)).1 = 1 from k1)]
    have eF1 : (zg (zForm tp N (zAdd (zP S (S.1 + 2)) 3 v)).2).2.1 = fApp (fSt (zg S).2.1) (ee tp N (S.1 + 2)).2.2 := by rw [← eF]; rfl
    have ep1 : (zForm tp N (zAdd (zP S (S.1 + 2)) 3 v)).2.1 = (ee tp N (S.1 + 2)).2.1 := rfl
    have eg1 : (zg (zForm tp N (zAdd (zP S (S.1 + 2)) 3 v)).2).1 = (pNew S 3 v).1 := rfl
    have es1 : zsz (zForm tp N (zAdd (zP S (S.1 + 2)) 3 v)).2 = zsz S + 1 := congrArg (fun x : Fm × Fm × Int => x.2.2) e2
    have eo1 : (zForm tp N (zAdd (zP S (S.1 + 2)) 3 v)).2.2.1 = S.2.1 ∧ (zForm tp N (zAdd (zP S (S.1 + 2)) 3 v)).2.2.2.1 = S.2.2.1 ∧ (zForm tp N (zAdd (zP S (S.1 + 2)) 3 v)).2.2.2.2.1 = fup S.2.2.2.1 S.2.1 (zsz S) ∧ (zForm tp N (zAdd (zP S (S.1 + 2)) 3 v)).2.2.2.2.2.1 = 0 := ⟨rfl, rfl, rfl, rfl⟩
    generalize (zForm tp N (zAdd (zP S (S.1 + 2)) 3 v)).2 = A1 at *
    generalize hL1 : (ee tp N (S.1 + 2)).2.2 = L1 at *
    generalize (ee tp N (S.1 + 2)).2.1 = p1 at *
    refine n_wants hT a2 hM (by omega) (by decide) (fun c => absurd c (by decide)) (fun _ c M3 a3 g3 => ⟨a3.1, ?_⟩) (fun _ c hin M3 a3 g3 => ⟨a3.1, ?_⟩)
    · have hf := fails_step (tp := tp) (N := N) (n := n) (S := S) hpn (by
        rw [hst, hz2]; unfold zThen zSign; rw [ep1, if_neg c]; rfl)
      have hfp : (zStep tp N n S).2.1 = p1 := by
        rw [hst, hz2]; unfold zThen zSign; rw [ep1, if_neg c]; exact ep1
      rw [hfp] at hf
      exact flt M3 p1 _ _ _ _ a3 hf ((hnd.trans g2 (Nat.le_refl _)).trans g3 (by omega))
    · obtain ⟨d1, d2, d3, d4, d5⟩ := ee_b hT hN (p := p1 + 1) (by omega)
      have hz3 : zStmt tp N S = zForm tp N (zP A1 (p1 + 1)) := by
        rw [hz2]; unfold zThen zSign; rw [ep1, if_pos c]; rfl
      refine n_sum hT hM hTb hN hd (by omega) (by omega) a3 (fun w1 M4 m4 y a4 g4 l3 l4 w2 w3 => ⟨a4.1, ?_⟩) (fun w1 M4 p4 m4 y a4 g4 => ⟨a4.1, ?_⟩)
      · have d5 := d5 w1
        refine n_writes a4 hM hTb (fun _ => by omega) (fun c => absurd c (by decide)) fun _ M5 a5 g5 s5 => ⟨a5.1, ?_⟩
        have hr := reach_step (tp := tp) (N := N) (n := n) (S := S) hpn (by rw [hst, hz3]; exact w1) (by rw [hst, hz3]; show S.1 < (ee tp N (p1 + 1)).2.1; omega)
        rw [hst, hz3] at hr
        have hPI := zForm_pi' hT hN (PI_zP hPI1 (p := p1 + 1) (by omega)) (by show p1 + 1 ≤ n; omega) w1
        have eF2 : (zg (zForm tp N (zP A1 (p1 + 1))).2).2.1 = fApp (fSt (fApp (fSt (zg S).2.1) L1)) (ee tp N (p1 + 1)).2.2 := by rw [← eF1]; rfl
        obtain ⟨i1, i2, i3, i4, i5⟩ := fApp_f (fSt (zg S).2.1) hF0 L1
        have hF1 : 0 ≤ (fApp (fSt (zg S).2.1) L1).2.2.2.1 := by rw [i1]; show 0 ≤ (zg S).2.1.2.2.2.1 + _; omega
        have hg1 : (fApp (fSt (zg S).2.1) L1).2.2.2.2 = ((g + 1 : Nat) : Int) := by rw [i2]; show (zg S).2.1.2.2.2.2 + 1 = _; omega
        have hg2 : g + 1 < 150 := by
          have := hPI1.2.2.2.1.2
          rw [eF1, hg1, ep1] at this
          omega
        have eo := eo1
        have hj : ∀ j t : Nat, (j ≠ 1 ∨ (t : Int) ≠ zsz S) → (zg (zForm tp N (zP A1 (p1 + 1))).2).1 j t = (pNew S 3 v).1 j t := fun j t _ => by
          show (zg A1).1 j t = _
          rw [eg1]
        obtain ⟨p1', p2', p3'⟩ := pNew_lo (kd := 3) (dt := v) h h40 hb
        have hszF : zsz (zForm tp N (zP A1 (p1 + 1))).2 = zsz S + 1 := es1
        obtain ⟨f1, f2, f3, f4, f5, f6, f7, f8⟩ := new_facts (S' := (zForm tp N (zP A1 (p1 + 1))).2) (kd := 3) (dt := v) h h40 hb (by omega) (by omega) (fun j t q _ => hj j t (by omega)) (by rw [hj 3 _ (by omega)]; exact p2')
        have eD : gDetail (zg (zForm tp N (zP A1 (p1 + 1))).2) (zsz S) = v := by
          rw [f7]
          show (zg A1).1 1 _ = v
          rw [eg1]; exact pNew_det
        obtain ⟨r1, r2, r3, r4⟩ := StP_simple (M0 := M0) (M := M) (σ0 := σ0) (kd := 3) (dt := v) h h40 hb hTb (by omega) hr a5 (by show S.1 < (ee tp N (p1 + 1)).2.1; omega) (show m ≤ m4 by omega) (by show m4 + 1 + S.1 ≤ m + (ee tp N (p1 + 1)).2.1; omega) ((((hnd.trans g2 (Nat.le_refl _)).trans g3 (by omega)).trans g4 (by omega)).trans g5 (by omega)) eo.1 eo.2.2.2 eo.2.1 eo.2.2.1 hPI hszF hj (fun f l q => by rw [eF2]; exact FE_keep hF1 (by omega) (FE_keep hF0 (by omega) q)) s5.2.2.2.2 (by
          refine Or.inr (Or.inr (Or.inl ⟨f2, ?_, ?_, ?_, ?_, ?_⟩))
          · rw [sUp_self, Int.toNat_natCast]; exact s5.1
          · rw [sUp_self, Int.toNat_natCast, eD]; exact s5.2.1
          · rw [eD]; exact hv
          · rw [sUp_self, Int.toNat_natCast, s5.2.2.1, f3]
            obtain ⟨k4, k5⟩ := exB_nd ((g3.trans g4 (by omega)).trans g5 (by omega)) (Nat.le_refl _) _ _ k2
            refine EqR_new (S := S) (g := g) (l := L1) (by rw [eF2]; exact FE_keep hF1 (by omega) (FE_new hF0 hg hg150)) k4 (by omega) (fun vals hvals => (k5 vals).trans (k3 vals hvals)) (by omega) hg
          · rw [sUp_self, Int.toNat_natCast, s5.2.2.2.1, f3]
            obtain ⟨k4, k5⟩ := exB_nd g5 (Nat.le_refl _) _ _ w2
            refine EqR_new (S := S) (g := g + 1) (l := (ee tp N (p1 + 1)).2.2) (by rw [eF2]; exact FE_new hF1 hg1 hg2) k4 (by omega) (fun vals hvals => (k5 vals).trans (w3 vals hvals)) (by omega) (by omega))
        have := q1 _ _ _ _ r1 r2 r3 r4
        rw [sUp_self] at this
        exact this
      · have hf := fails_step (tp := tp) (N := N) (n := n) (S := S) hpn (by rw [hst, hz3]; exact d4.resolve_right w1)
        rw [hst, hz3] at hf
        exact n_writes_fault hM (Int.natCast_nonneg _) hTb a4 fun x => ⟨a4.1, q0 M4 _ p4 m4 _ _ x a4 hf (((hnd.trans g2 (Nat.le_refl _)).trans g3 (by omega)).trans g4 (by omega)) (Int.le_refl _) (by omega)⟩
  · have hz2 : zStmt tp N S = zForm tp N (zAdd (zP S (S.1 + 2)) 3 v) := by
      rw [hz1]; unfold zThen; rw [if_neg (show ¬ (zForm tp N (zAdd (zP S (S.1 + 2)) 3 v)).1 = 1 from k1)]
    have hf := fails_step (tp := tp) (N := N) (n := n) (S := S) hpn (by rw [hst, hz2]; exact b4.resolve_right k1)
    rw [hst, hz2] at hf
    exact n_wants_fault hT hM (by omega) (Int.natCast_nonneg _) (by decide) a2 fun M3 a3 g3 => ⟨a3.1, flt M3 _ _ _ _ _ a3 hf ((hnd.trans g2 (Nat.le_refl _)).trans (g3 _) (Nat.le_refl _))⟩
end SIMPLE2
