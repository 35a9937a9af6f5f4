/-! ways on both sides: the loop -/
section WAYS2
variable {K M0 : ZMem} {tp : Nat → Int} {n N T : Nat}
def WyLeaf (K : ZMem) (d : Nat) (l1 l2 l3 : Int) (M : ZMem) (Q : Int → ZMem → Prop) : Prop := inR (l3 + 1) ∧ (((l3 + 1) ≠ 6 → (Ci d q10_takes [zr 2230, zi 124] M (fun x M' => KW K M' ∧ Xi (d + 1) q10_readsWays 20 [some (zr 2230), some (zi l1), some (zi l2), some (zi (l3 + 1)), some (zi x), none, none] [] M' Q))) ∧ (¬ ((l3 + 1) ≠ 6) → (Ci d q10_peek [zr 2230] M (fun x1 M1 => KW K M1 ∧ ((x1 ≠ 124 → (Ci d q10_takes [zr 2230, zi 124] M1 (fun x M' => KW K M' ∧ Xi (d + 1) q10_readsWays 20 [some (zr 2230), some (zi l1), some (zi l2), some (zi (l3 + 1)), some (zi x), none, none] [] M' Q))) ∧ (¬ (x1 ≠ 124) → (Cv d q10_wrong [zr 2230, zi (mI M1 2230 2)] M1 (fun M2 => KW K M2 ∧ Ci d q10_takes [zr 2230, zi 124] M2 (fun x M' => KW K M' ∧ Xi (d + 1) q10_readsWays 20 [some (zr 2230), some (zi l1), some (zi l2), some (zi (l3 + 1)), some (zi x), none, none] [] M' Q)))))))))
theorem wy_fault {d p m : Nat} {f op td l1 l2 l3 l4 : Int} {M : ZMem} {Q : Int → ZMem → Prop} (hT : Tp tp n) (hM : ModelAt K 2230) (hTb : T < 270) (hd : 5 ≤ d) (hop : -100 ≤ op ∧ op ≤ 100) (hf : 0 ≤ f) (h : NM K M0 M tp n T p f op td m) (q : ∀ x M', NM K M0 M' tp n T p f (op - 1) td m → (∀ b, ndB b M M') → Q x M') : Xi (d + 1) q10_readsWays 20 [some (zr 2230), some (zi l1), some (zi l2), some (zi l3), some (zi l4), none, none] [] M Q := by
  have e3 := h.2.2.1.2.1
  have w : Cv d q10_wants [zr 2230, zi 41] M (fun M1 => KW K M1 ∧ (inR ((mI M1 2230 4) - 1)) ∧ Ci d q10_writes [zr 2230, zi 11, zi l1, zi l3, zi 0] (sI M1 2230 4 ((mI M1 2230 4) - 1)) (fun x7 M6 => KW K M6 ∧ Q x7 M6)) := n_wants_fault hT hM (by omega) hf (by decide) h fun M' a g => by
    have r4 := a.2.2.1.2.2.1
    have a' := a.ops (x := (mI M' 2230 4) - 1)
    rw [r4] at a' ⊢
    exact ⟨a.1, ⟨by omega, by omega⟩, n_writes_fault hM hf hTb a' fun x => ⟨a'.1, q x _ a' fun b => (g b).sc⟩⟩
  exact B10_readsWays_20 l1 l2 l3 l4 h.1 hM ⟨fun _ => w, fun _ => ⟨fun _ => w, fun c => absurd (by omega) c⟩⟩
theorem wy_leaf_fault {d p m : Nat} {f op td l1 l2 l3 : Int} {M : ZMem} {Q : Int → ZMem → Prop} (hT : Tp tp n) (hM : ModelAt K 2230) (hTb : T < 270) (hd : 5 ≤ d) (hop : -100 ≤ op ∧ op ≤ 100) (hf : 0 ≤ f) (hl : 0 ≤ l3 ∧ l3 < 10) (h : NM K M0 M tp n T p f op td m) (q : ∀ x M', NM K M0 M' tp n T p f (op - 1) td m → (∀ b, ndB b M M') → Q x M') : WyLeaf K d l1 l2 l3 M Q := by
  have e3 := h.2.2.1.2.1
  have tk : ∀ M1, NM K M0 M1 tp n T p f op td m → (∀ b, ndB b M M1) → Ci d q10_takes [zr 2230, zi 124] M1 (fun x M' => KW K M' ∧ Xi (d + 1) q10_readsWays 20 [some (zr 2230), some (zi l1), some (zi l2), some (zi (l3 + 1)), some (zi x), none, none] [] M' Q) := fun M1 a1' g1 => n_takes hT a1' hM (by omega) (by decide) (fun _ => ⟨a1'.1, wy_fault hT hM hTb hd hop hf a1' fun x M' a g => q x M' a fun b => (g1 b).trans (g b) (Nat.le_refl _)⟩) (fun c => absurd hf c) (fun c => absurd hf c)
  refine ⟨⟨by omega, by omega⟩, fun _ => tk M h fun b => ndB.refl, fun _ => n_peek hT h hM (by omega) ⟨h.1, fun _ => tk M h fun b => ndB.refl, fun _ => ?_⟩⟩
  refine B10_wrong _ h.1 hM ⟨fun _ => ?_, fun c => absurd (by omega) c⟩
  have a := h.fault (x := mI M 2230 3)
  rw [e3] at a ⊢
  exact ⟨a.1, tk _ a fun b => ndB.refl.sc⟩
/-- behind the last part -/
theorem wy_end {d : Nat} (hT : Tp tp n) (hM : ModelAt K 2230) (hTb : T < 270) (hd : 5 ≤ d) {M M1 : ZMem} {S S1 : St} {m m1 : Nat} {dt : Int} {σ0 σ : Int → Int} {Q : Int → ZMem → Prop} (h : SI n S) (h40 : zsz S < 40) (hm : m ≤ S.1)
    (q1 : ∀ M' S' m' σ, StP K M0 M tp n N T S m σ0 M' S' m' σ → S'.2.2.2.1 S.2.1 = zsz S → gBehind (zg S') (zsz S) = -1 → mI M' 2236 (σ (zsz S)).toNat = -1 → Q (σ (zsz S)) M') (q0 : SFail K M0 M tp n N T S m Q)
    {i : Nat} {fs : Nat → Int} {hi : Nat} {hole F L : Int} (hi6 : 1 ≤ i ∧ i ≤ 6) (hI : Inn K M0 M tp n N T S 5 dt m σ0 M1 S1 m1 σ i fs hi hole 0) (hhi : hi ≤ T * 260 + m1) (h59 : tp S1.1 ≠ 59) (hbar : tp S1.1 ≠ 124 ∨ 6 ≤ i) (hc : CW M1 (T * 260 + m) (T * 260 + m1) i F L fun j => σ (fs j)) :
    Xi (d + 1) q10_readsWays 20 [some (zr 2230), some (zi F), some (zi L), some (zi (i : Int)), some (zi 0), none, none] [] M1 Q := by
  have hn150 := hT.1
  have h0 := h.1.1.1
  have ear := hI.ar
  have gg := hI
  obtain ⟨⟨a1, ⟨a2, a3, a4⟩, a5, a6⟩, ⟨b1, b2, b3⟩, ⟨c1, c2, c3, c4⟩, ⟨d1, d2, d3, d4, d5, d6⟩, e1, ⟨f1, f2⟩, f3⟩ := gg
  have hop6 := c1.1.2.2.2.2.1
  have hp1 := c1.2.1
  have hh : gHas (zg S1) (zsz S) := ⟨h0, c2, h40⟩
  have hzb := zb_ways (n := n) (i := i) h59 ear hh d3 (by omega) (by omega)
  refine B10_readsWays_20 F L i 0 a1.1 hM ⟨fun _ => ?_, fun c => absurd rfl c⟩
  refine n_wants hT a1 hM (by omega) (by decide) (fun c => absurd c (by decide)) (fun _ c M3 b3' g3 => ⟨b3'.1, ?_⟩) (fun _ c hin M3 b3' g3 => ⟨b3'.1, ?_⟩)
  · have hzz : zStep tp N n S1 = (0, S1) := by rw [step_behind b2]; exact hzb.2.2 ⟨c, hbar⟩
    have hf3 := fails_step (tp := tp) (N := N) (n := n) (S := S1) hp1 (by rw [hzz])
    rw [hzz] at hf3
    have r4 := b3'.2.2.1.2.2.1
    have b5 := b3'.ops (x := (mI M3 2230 4) - 1)
    refine ⟨⟨by omega, by omega⟩, n_writes_fault hM (Int.natCast_nonneg _) hTb b5 fun x => ⟨b5.1, q0 _ S1.1 _ m1 _ _ x b5 (a6.fails hf3) ((a5.trans g3 (by omega)).sc) (by omega) (by omega)⟩⟩
  · have r4 := b3'.2.2.1.2.2.1
    have b5 := b3'.ops (x := (mI M3 2230 4) - 1)
    rw [show (mI M3 2230 4) - 1 = (S.2.1 : Int) by omega] at b5 ⊢
    have g3' : ndB (T * 260 + m1) M1 (sI M3 2230 4 (S.2.1 : Int)) := g3.sc
    refine ⟨⟨by omega, by omega⟩, n_writes b5 hM hTb (fun _ => by omega) (fun c => absurd c (by decide)) fun _ M5 a5' g6 s5 => ⟨a5'.1, ?_⟩⟩
    obtain ⟨w1, w2, w3, w4⟩ := hc
    have hB : Kp (T * 260 + m) (T * 260 + m1) M1 M5 := Kp.nd (g3'.trans g6 (Nat.le_refl _)) (Nat.le_refl _)
    have ep : ∀ t : Nat, t ≤ i → pk M5 F t = pk M1 F t := fun t ht => pk_kp hB t fun k hk => (w1 k (by omega)).1
    have epar : gParts (zg S1) (zsz S) = (i : Int) := by
      unfold gParts
      rw [if_pos hh]; omega
    obtain ⟨S', r1, r2, r3, r4⟩ := Inn_close (M2 := M5) h h40 hTb (by omega) hI hhi (hzb.1 c) a5' (g3'.trans g6 (Nat.le_refl _)) s5.2.2.2.2 (fun σ' e1 e2 => by
      refine Or.inr (Or.inr (Or.inr (Or.inr (Or.inl ⟨d3, ?_, ?_, by rw [epar]; omega, by rw [d5]; omega, fun k hk => ?_⟩))))
      · rw [e1, Int.toNat_natCast]; exact s5.1
      · rw [e1, Int.toNat_natCast, epar]; exact s5.2.2.1
      · rw [epar] at hk
        obtain ⟨u1, u2, u3⟩ := hI.pf h0 h40 (k := k) (by omega) (by omega)
        rw [e1, Int.toNat_natCast, s5.2.1, ep k (by omega), u1]
        obtain ⟨v1, v2⟩ := w1 k (by omega)
        have v3 := v1.kp hB
        have v4 := v1.1
        refine ⟨⟨⟨v3.1.1, by omega⟩, v3.2⟩, u2, u3, ?_⟩
        rw [hB.1 2233 _ (by omega) (by omega) (by omega), v2]
        refine (e2 _ fun q => ?_).symm
        -- it isn't the bracket itself
        rw [q, d4] at u3
        rcases h.ar with q | q
        · omega
        · have q2 : zAr S < zsz S := q.1.2.1
          omega)
    have := q1 _ _ _ _ r1 r2 r3 r4
    rw [sUp_self] at this
    exact this
theorem wy_item {d : Nat} (hT : Tp tp n) (hM : ModelAt K 2230) (hTb : T < 270) (hd : 5 ≤ d) {M : ZMem} {S : St} {m : Nat} {dt : Int} {σ0 : Int → Int} {Q : Int → ZMem → Prop} (hprog : ProgSpec K tp n N T (S.2.1 + 1) d) (h : SI n S) (h40 : zsz S < 40) (hm : m ≤ S.1)
    (q1 : ∀ M' S' m' σ, StP K M0 M tp n N T S m σ0 M' S' m' σ → S'.2.2.2.1 S.2.1 = zsz S → gBehind (zg S') (zsz S) = -1 → mI M' 2236 (σ (zsz S)).toNat = -1 → Q (σ (zsz S)) M') (q0 : SFail K M0 M tp n N T S m Q) (j i : Nat) (hij : i + (j + 1) = 6)
    (next : 1 ≤ j → ∀ (S2 : St) (M2 : ZMem) (m2 : Nat) (σ2 : Int → Int) (fs : Nat → Int) (hi : Nat) (hole F L l4 : Int), l4 ≠ 0 → Inn K M0 M tp n N T S 5 dt m σ0 M2 S2 m2 σ2 (i + 1) fs hi hole 1 → SI n S2 → S2.2.2.2.1 (S.2.1 + 1) = -1 → hi ≤ T * 260 + m2 → hole < T * 260 + m2 → (1 ≤ i + 1 → L = hole) → CW M2 (T * 260 + m) (T * 260 + m2) (i + 1) F L (fun j => σ2 (fs j)) →
      Xi (d + 1) q10_readsWays 20 [some (zr 2230), some (zi F), some (zi L), some (zi ((i + 1 : Nat) : Int)), some (zi l4), none, none] [] M2 Q)
    (S2 : St) (M2 : ZMem) (m2 : Nat) (σ2 : Int → Int) (fs : Nat → Int) (hi : Nat) (hole F L l4 : Int) (h4 : l4 ≠ 0) (hI : Inn K M0 M tp n N T S 5 dt m σ0 M2 S2 m2 σ2 i fs hi hole 1) (hS2 : SI n S2) (hB2 : S2.2.2.2.1 (S.2.1 + 1) = -1) (hhi : hi ≤ T * 260 + m2) (hho : hole < T * 260 + m2) (hL : 1 ≤ i → L = hole) (hc : CW M2 (T * 260 + m) (T * 260 + m2) i F L (fun j => σ2 (fs j))) :
    Xi (d + 1) q10_readsWays 20 [some (zr 2230), some (zi F), some (zi L), some (zi (i : Int)), some (zi l4), none, none] [] M2 Q := by
  have hn150 := hT.1
  have h0 := h.1.1.1
  have eii : ((i + 1 : Nat) : Int) = (i : Int) + 1 := by omega
  have gg := hI
  obtain ⟨⟨a1, ⟨a2, a3, a4⟩, a5, a6⟩, ⟨b1, b2, b3⟩, ⟨c1, c2, c3, c4⟩, _, e1, _⟩ := gg
  have hop6 := c1.1.2.2.2.2.1
  have e3 := a1.2.2.1.2.1
  have hb1 : (S2.2.1 : Int) = (S.2.1 : Int) + 1 := by omega
  refine B10_readsWays_20 F L i l4 a1.1 hM ⟨fun c => absurd c h4, fun _ => ⟨fun c => absurd c (by omega), fun _ => ?_⟩⟩
  refine hprog M0 M2 S2 m2 σ2 _ b1 b2 hB2 hS2 (by rw [Int.natCast_add]; exact a1) (by omega) (fun M3 S3 m3 σ3 g3 h59 => ⟨g3.1.1, ?_⟩) (fun M' g p m' op' td x w1 w2 w3 w4 w5 => ⟨w1.1, ?_⟩)
  · have hI3 := Inn_part h0 h40 hI hB2 hhi hho (by omega) g3
    have hsg : ∀ t, t < i → σ3 ((fun k => if k = i then zsz S2 else fs k) t) = σ2 (fs t) := fun t ht => by
      dsimp only
      rw [if_neg (by omega)]
      exact g3.2.2.2.2.2.2.2.2.2.2.2 _ (e1 t ht).2.1.2.1
    have hsi : σ3 ((fun k => if k = i then zsz S2 else fs k) i) = σ3 (zsz S2) := by
      dsimp only
      rw [if_pos rfl]
    have g5 := g3.2.2.1
    have n3 := hI3.1.1
    have nd3 := hI3.1.2.2.1
    have hcnt := hI3.1.2.1
    have hp3 := hI3.2.2.1.1.2.1
    have hm23 := g3.2.1.2.1
    have hm24 := g3.2.1.2.2
    generalize (fun k => if k = i then zsz S2 else fs k) = fs3 at *
    have hkd3 := hI3.2.2.2.1.2.2.1
    refine n_writes n3 hM hTb (fun _ => by omega) (fun c => absurd c (by decide)) fun _ M4 c4' g4 s4 => ⟨c4'.1, ?_⟩
    have leaf : ∀ (M5 : ZMem) (F' L' : Int), L' = ((T * 260 + m3 : Nat) : Int) → Inn K M0 M tp n N T S 5 dt m σ0 M5 S3 (m3 + 1) σ3 (i + 1) fs3 (T * 260 + m3) ((T * 260 + m3 : Nat) : Int) 0 → CW M5 (T * 260 + m) (T * 260 + (m3 + 1)) (i + 1) F' L' (fun j => σ3 (fs3 j)) → WyLeaf K d F' L' i M5 Q := fun M5 F' L' hL' hI5 hc5 => by
      have n5 := hI5.1.1
      have hcnt5 := hI5.1.2.1
      have fin : (tp S3.1 ≠ 124 ∨ 6 ≤ i + 1) → Xi (d + 1) q10_readsWays 20 [some (zr 2230), some (zi F'), some (zi L'), some (zi ((i : Int) + 1)), some (zi 0), none, none] [] M5 Q := fun ne => by
        have := wy_end (d := d) hT hM hTb hd h h40 hm q1 q0 (by omega) hI5 (by omega) h59 ne hc5
        rw [eii] at this
        exact this
      refine ⟨⟨by omega, by omega⟩, fun c6 => n_takes hT n5 hM (by omega) (by decide) (fun c => absurd c (by decide)) (fun _ ne => ⟨n5.1, fin (Or.inl ne)⟩) (fun _ e hin M6 c7 g7 => ⟨c7.1, ?_⟩), fun c6 => n_peek hT n5 hM (by omega) ⟨n5.1, fun ne => n_takes hT n5 hM (by omega) (by decide) (fun c => absurd c (by decide)) (fun _ ne => ⟨n5.1, fin (Or.inl ne)⟩) (fun _ e _ => absurd e ne), fun e => ?_⟩⟩
      · obtain ⟨hb, hbS⟩ := Inn_bar h0 h40 hI5 h59 e (by omega) c7 g7 (by omega)
        have := next (by omega) (zBar S3 (zsz S)) M6 (m3 + 1) σ3 fs3 _ _ F' L' 1 (by decide) hb hbS (by
          show fup S3.2.2.2.1 S3.2.1 (-1) (S.2.1 + 1) = -1
          rw [hI3.2.1.1, fup_self]) (by omega) (by omega) (fun _ => hL') (CW_keep hc5 g7 (Nat.le_refl _) fun _ _ => rfl)
        rw [eii] at this
        exact this
      · have e : tp S3.1 = 124 := Decidable.not_not.mp e
        have hop7 := hI3.2.1
        have hh3 : gHas (zg S3) (zsz S) := ⟨h0, hI3.2.2.1.2.1, h40⟩
        have hpt := hI3.2.2.2.1.2.1
        have hzb := zb_ways (tp := tp) (n := n) (i := i + 1) h59 hI3.ar hh3 hkd3 (by omega) (by omega)
        have hzz : zStep tp N n S3 = (0, S3) := by rw [step_behind hop7.2.1]; exact hzb.2.2 ⟨by omega, Or.inr (by omega)⟩
        have hf3 := fails_step (tp := tp) (N := N) (n := n) (S := S3) hp3 (by rw [hzz])
        rw [hzz] at hf3
        have e2' := n5.2.2.1.1
        have nd5 := hI5.1.2.2.1
        refine n_wrong n5 hM fun M6 c7 g7 => ⟨c7.1, ?_⟩
        rw [if_neg (by decide), e2'] at c7
        exact n_takes hT c7 hM (by omega) (by decide) (fun _ => ⟨c7.1, wy_fault hT hM hTb hd (by omega) (Int.natCast_nonneg _) c7 fun y M8 c9 g9 => q0 M8 S3.1 _ _ _ _ y c9 (hI3.1.2.2.2.fails hf3) ((nd5.trans g7 (by omega)).trans (g9 _) (Nat.le_refl _)) (by omega) (by omega)⟩) (fun c => absurd (Int.natCast_nonneg _) c) (fun c => absurd (Int.natCast_nonneg _) c)
    have e33 := c4'.2.2.1.2.1
    refine ⟨fun c0 => ⟨fun c => absurd c (by omega), fun _ => ⟨fun c => absurd c (by omega), fun _ => ?_⟩⟩, fun c0 => ⟨fun _ => ?_, fun c => absurd c (by omega)⟩⟩
    · have hL1 := hL (by omega)
      have hcL := hc.2.2.2 (by omega)
      obtain ⟨⟨⟨p1, p2'⟩, _⟩, _⟩ := hc.1 (i - 1) (by omega)
      rw [← hcL] at p1 p2'
      have hnd5 : ndB (T * 260 + m) M (sI M4 2236 L.toNat ((T * 260 + m3 : Nat) : Int)) := fun a t t1 t2 t3 => by
        rw [mI_sI, if_neg (by omega)]
        exact (nd3.trans g4 (by omega)) a t t1 t2 t3
      refine ⟨by omega, by omega, leaf _ F _ rfl (Inn_node hI3 (c4'.node (by omega) (by omega)) (by omega) hnd5 (fun f t t1 t2 t3 t4 => ?_) (by omega)) (CW_next hc (by omega) (by omega) (g5.trans g4 (by omega)) s4 (by omega) (by omega) hsg hsi)⟩
      rw [mI_sI, if_neg (by omega)]
      exact g4 f t t1 t2 t3
    · have i0 : i = 0 := by omega
      subst i0
      exact leaf _ _ _ rfl (Inn_node hI3 c4' (by omega) (nd3.trans g4 (by omega)) (fun f t t1 t2 t3 _ => g4 f t t1 t2 t3) (by omega)) (CW_first s4 (by omega) (by omega) hsi)
  · have w4 : (S2.2.1 : Int) ≤ op' := w4
    have w5 : op' ≤ (S2.2.1 : Int) + 1 := w5
    have lf : ∀ (M4 : ZMem) (F' L' : Int), NM K M0 M4 tp n T p (g : Nat) op' td m' → (∀ b, ndB b M' M4) → WyLeaf K d F' L' i M4 Q := fun M4 F' L' c4 g4 => wy_leaf_fault hT hM hTb hd (by omega) (Int.natCast_nonneg _) (by omega) c4 fun y M6 c7 g7 => q0 M6 g _ _ _ _ y c7 (a6.fails w2) (((a5.trans w3 (by omega)).trans (g4 _) (Nat.le_refl _)).trans (g7 _) (Nat.le_refl _)) (by omega) (by omega)
    have e33 := w1.2.2.1.2.1
    exact n_writes_fault hM (Int.natCast_nonneg _) hTb w1 fun y => ⟨w1.1, fun c0 => ⟨fun c => absurd c (by omega), fun _ => ⟨fun _ => lf M' _ _ w1 fun b => ndB.refl, fun c => absurd (by omega) c⟩⟩, fun c0 => ⟨fun _ => lf M' _ _ w1 fun b => ndB.refl, fun c => absurd c (by omega)⟩⟩
end WAYS2
