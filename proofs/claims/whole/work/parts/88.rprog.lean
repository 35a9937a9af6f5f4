/-! the reference reads a program's parts, given that it reads a statement -/
def SI (n : Nat) (S : St) : Prop := PI S ∧ S.1 ≤ n ∧ ∀ k : Nat, k < S.2.1 → gHas (zg S) (S.2.2.1 k) ∧ gLevel (zg S) (S.2.2.1 k) = k ∧ (gKind (zg S) (S.2.2.1 k) = 5 ∨ gKind (zg S) (S.2.2.1 k) = 6 ∨ gKind (zg S) (S.2.2.1 k) = 7 ∨ gKind (zg S) (S.2.2.1 k) = 9) ∧ 1 ≤ gParts (zg S) (S.2.2.1 k) ∧ gAround (zg S) (S.2.2.1 k) = (if k = 0 then -1 else S.2.2.1 (k - 1))
def Sts (M : ZMem) (P : Pg) (σ : Int → Int) (lo hi : Nat) (s0 s1 : Int) : Prop := (∀ s, s0 ≤ s → s < s1 → (∃ a b, lo ≤ a ∧ b ≤ hi ∧ Body M P σ a b s) ∧ Lnk M P σ s) ∧ ∀ s s', s0 ≤ s → s < s1 → s0 ≤ s' → s' < s1 → σ s = σ s' → s = s'
/-- what has come about between two states of reading -/
def StP (K M0 M : ZMem) (tp : Nat → Int) (n N T : Nat) (S : St) (m : Nat) (σ0 : Int → Int) (M' : ZMem) (S' : St) (m' : Nat) (σ : Int → Int) : Prop :=
  NM K M0 M' tp n T S'.1 (-1) S.2.1 (zsz S') m' ∧ (S.1 < S'.1 ∧ m ≤ m' ∧ m' + S.1 ≤ m + S'.1) ∧ ndB (T * 260 + m) M M' ∧ Reach tp N n S S' ∧ (S'.2.1 = S.2.1 ∧ S'.2.2.2.2.1 = 0 ∧ ∀ k, k < S.2.1 → S'.2.2.1 k = S.2.2.1 k ∧ S'.2.2.2.1 k = S.2.2.2.1 k) ∧ SI n S' ∧ zsz S < zsz S' ∧ Gr (zg S) (zg S') ∧ Cl (zLnk (zg S) (zAr S) (S.2.2.2.1 S.2.1) (zsz S)) (zg S') 0 (zsz S) ∧ Sts M' (zg S') σ (T * 260 + m) (T * 260 + m') (zsz S) (zsz S') ∧ gAround (zg S') (zsz S) = zAr S ∧ ∀ i, i < zsz S → σ i = σ0 i
def SFail (K M0 M : ZMem) (tp : Nat → Int) (n N T : Nat) (S : St) (m : Nat) (Q : Int → ZMem → Prop) : Prop :=
  ∀ (M' : ZMem) (g p m' : Nat) (op td x : Int), NM K M0 M' tp n T p g op td m' → Fails tp N n S g → ndB (T * 260 + m) M M' → (S.2.1 : Int) ≤ op → op ≤ (S.2.1 : Int) + 1 → Q x M'
def StepSpec (K : ZMem) (tp : Nat → Int) (n N T op d : Nat) : Prop :=
  ∀ (M0 M : ZMem) (S : St) (m : Nat) (σ0 : Int → Int) (Q : Int → ZMem → Prop), S.2.1 = op → S.2.2.2.2.1 = 1 → SI n S → S.2.2.2.1 op < zsz S → NM K M0 M tp n T S.1 (-1) op (zsz S) m → m ≤ S.1 →
    (∀ M' S' m' σ, StP K M0 M tp n N T S m σ0 M' S' m' σ → S'.2.2.2.1 op = zsz S → gBehind (zg S') (zsz S) = -1 → mI M' 2236 (σ (zsz S)).toNat = -1 → Q (σ (zsz S)) M') →
    SFail K M0 M tp n N T S m Q → Ci d q10_readsStep [zr 2230] M Q
def ProgSpec (K : ZMem) (tp : Nat → Int) (n N T op d : Nat) : Prop :=
  ∀ (M0 M : ZMem) (S : St) (m : Nat) (σ0 : Int → Int) (Q : Int → ZMem → Prop), S.2.1 = op → S.2.2.2.2.1 = 1 → S.2.2.2.1 op = -1 → SI n S → NM K M0 M tp n T S.1 (-1) op (zsz S) m → m ≤ S.1 →
    (∀ M' S' m' σ, StP K M0 M tp n N T S m σ0 M' S' m' σ → tp S'.1 ≠ 59 → Q (σ (zsz S)) M') →
    SFail K M0 M tp n N T S m Q → Ci d q10_readsProgram [zr 2230] M Q
section RPROG
variable {K M0 : ZMem} {tp : Nat → Int} {n N T : Nat}
theorem zAr_eq {S S' : St} (h : S'.2.1 = S.2.1) (hO : ∀ k, k < S.2.1 → S'.2.2.1 k = S.2.2.1 k) : zAr S' = zAr S := by
  unfold zAr
  rw [h]
  by_cases c : 1 ≤ S.2.1
  · rw [if_pos c, if_pos c, hO _ (by omega)]
  · rw [if_neg c, if_neg c]
theorem pLinkB_ne {P : Pg} {b s : Int} {j k : Nat} (h : j ≠ 3 ∨ (k : Int) ≠ b) : (pLinkB P b s).1 j k = P.1 j k := by
  unfold pLinkB
  split
  · rename_i c
    have := c.1
    rw [pU_at, if_neg (by omega)]
  · rfl
theorem nm_same {M : ZMem} {p m : Nat} {f op td : Int} (h : NM K M0 M tp n T p f op td m) {o : Nat} : NM K M0 (sI M 2236 o (mI M 2236 o)) tp n T p f op td m := h.node (by omega) (by omega)
theorem nd_same {M : ZMem} {b o : Nat} : ndB b M (sI M 2236 o (mI M 2236 o)) := fun a j _ _ _ => by
  rw [mI_sI]
  split
  · rename_i c; rw [c.1, c.2]
  · rfl
theorem n_prog_loop (hT : Tp tp n) (hM : ModelAt K 2230) (hTb : T < 270) {op d : Nat} (hd : 3 ≤ d) (hstep : StepSpec K tp n N T op d) {M : ZMem} {S : St} {m : Nat} {σ0 : Int → Int} {Q : Int → ZMem → Prop} (hop : S.2.1 = op) (hbf : S.2.2.2.1 op = -1)
    (q1 : ∀ M' S' m' σ, StP K M0 M tp n N T S m σ0 M' S' m' σ → tp S'.1 ≠ 59 → Q (σ (zsz S)) M') (q0 : SFail K M0 M tp n N T S m Q) : ∀ (z : Nat) (S1 : St) (M1 : ZMem) (m1 : Nat) (σ : Int → Int) (ls : Int), n - S1.1 ≤ z → StP K M0 M tp n N T S m σ0 M1 S1 m1 σ → m1 ≤ S1.1 → S1.2.2.2.1 op = ls → zsz S ≤ ls → ls < zsz S1 → gBehind (zg S1) ls = -1 → mI M1 2236 (σ ls).toNat = -1 → gAround (zg S1) ls = zAr S → Xi (d + 1) q10_readsProgram 7 [some (zr 2230), some (zi (σ (zsz S))), some (zi (σ ls)), none] [] M1 Q := by
  intro z
  induction z with
  | zero =>
    intro S1 M1 m1 σ ls hz h hm1 hB h1 h2 h3 h4 h5
    have hn1 := h.2.2.2.2.2.1.2.1
    have ht : tp S1.1 = 0 := hT.2.2 _ (by omega)
    refine B10_readsProgram_7 _ _ h.1.1 hM (n_takes hT h.1 hM (by omega) (by decide) (fun c => absurd c (by decide)) (fun _ c => ⟨h.1.1, fun _ => q1 M1 S1 m1 σ h c, fun c2 => absurd rfl c2⟩) (fun _ c => absurd c (by omega)))
  | succ z ih =>
    intro S1 M1 m1 σ ls hz h hm1 hB h1 h2 h3 h4 h5
    have h0 := h
    obtain ⟨a1, ⟨a2, a3, a4⟩, a5, a6, ⟨a7, a8, a9⟩, a10, a11, a12, a13, ⟨a14, a15⟩, a16, a17⟩ := h
    have hn1 := a10.2.1
    have hpi := a10.1
    have hsz0 : 0 ≤ zsz S := a12.1.1
    have hls := (a14 ls h1 h2).1
    obtain ⟨la, lb, lr1, lr2, hbl⟩ := hls
    have hln := hbl.2.1
    refine B10_readsProgram_7 _ _ a1.1 hM (n_takes hT a1 hM (by omega) (by decide) (fun c => absurd c (by decide)) (fun _ c => ⟨a1.1, fun _ => q1 M1 S1 m1 σ h0 c, fun c2 => absurd rfl c2⟩) (fun _ c hin M2 b1 b2 => ⟨b1.1, fun c2 => absurd c2 (by decide), fun _ => ?_⟩))
    -- the class goes on behind the sign
    have ez : zStep tp N n S1 = (1, S1.1 + 1, S1.2.1, S1.2.2.1, S1.2.2.2.1, 1, zg S1) := by
      rw [step_behind a8]; unfold zBehind; rw [if_pos c]
    have r2 := reach_step (tp := tp) (N := N) (n := n) (S := S1) (by omega) (by rw [ez]) (by rw [ez]; show S1.1 < S1.1 + 1; omega)
    rw [ez] at r2
    have hSI2 : SI n (S1.1 + 1, S1.2.1, S1.2.2.1, S1.2.2.2.1, 1, zg S1) := by
      refine ⟨?_, by show S1.1 + 1 ≤ n; omega, a10.2.2⟩
      obtain ⟨p1, p2, p3, p4, p5, p6⟩ := hpi
      refine ⟨p1, p2, ⟨p3.1, ?_⟩, ⟨p4.1, ?_⟩, p5, p6⟩
      · show (zg S1).2.1.2.2.2.1 ≤ ((S1.1 + 1 : Nat) : Int)
        have := p3.2; omega
      · show (zg S1).2.1.2.2.2.2 ≤ ((S1.1 + 1 : Nat) : Int)
        have := p4.2; omega
    have eAr : zAr (S1.1 + 1, S1.2.1, S1.2.2.1, S1.2.2.2.1, (1 : Int), zg S1) = zAr S := zAr_eq a7 fun k hk => (a9 k hk).1
    rw [hop] at b1
    refine hstep M0 M2 (S1.1 + 1, S1.2.1, S1.2.2.1, S1.2.2.2.1, 1, zg S1) m1 σ _ (a7.trans hop) rfl hSI2 (by show S1.2.2.2.1 op < zsz S1; omega) b1 (by show m1 ≤ S1.1 + 1; omega) (fun M5 S3 m3 σ3 g1 g2 g3 g4 => ?_) (fun M' g p m' op' td x w1 w2 w3 w4 w5 => ?_)
    · obtain ⟨k1, ⟨k2, k3, k4⟩, k5, k6, ⟨k7, k8, k9⟩, k10, k11, k12, k13, ⟨k14, k15⟩, k16, k17⟩ := g1
      have k2 : S1.1 + 1 < S3.1 := k2
      have k4 : m3 + (S1.1 + 1) ≤ m1 + S3.1 := k4
      have k7 : S3.2.1 = S1.2.1 := k7
      have k11 : zsz S1 < zsz S3 := k11
      have k12 : Gr (zg S1) (zg S3) := k12
      have k14 : ∀ s, zsz S1 ≤ s → s < zsz S3 → (∃ a b, T * 260 + m1 ≤ a ∧ b ≤ T * 260 + m3 ∧ Body M5 (zg S3) σ3 a b s) ∧ Lnk M5 (zg S3) σ3 s := k14
      have k15 : ∀ s s', zsz S1 ≤ s → s < zsz S3 → zsz S1 ≤ s' → s' < zsz S3 → σ3 s = σ3 s' → s = s' := k15
      have k17 : ∀ i, i < zsz S1 → σ3 i = σ i := k17
      have k16 : gAround (zg S3) (zsz S1) = zAr S := k16.trans eAr
      have g2 : S3.2.2.2.1 op = zsz S1 := g2
      have g3 : gBehind (zg S3) (zsz S1) = -1 := g3
      have g4 : mI M5 2236 (σ3 (zsz S1)).toNat = -1 := g4
      have ezl : zLnk (zg S1) (zAr (S1.1 + 1, S1.2.1, S1.2.2.1, S1.2.2.2.1, (1 : Int), zg S1)) (S1.2.2.2.1 S1.2.1) (zsz S1) = pLinkB (zg S1) ls (zsz S1) := by
        unfold zLnk
        rw [a7, hop, hB, if_neg (by omega)]
      have k13 : Cl (pLinkB (zg S1) ls (zsz S1)) (zg S3) 0 (zsz S1) := by rw [← ezl]; exact k13
      have e3f := k1.2.2.1.2.1
      refine ⟨k1.1, fun _ => ⟨by omega, by omega, ?_⟩, fun cf => absurd (by omega) cf⟩
      -- the last one's next
      have hm5 : ndB (T * 260 + m1) M1 M5 := b2.trans k5 (Nat.le_refl _)
      have hlsb : (σ ls).toNat < T * 260 + m1 := by omega
      have keepB : ∀ s a b, zsz S ≤ s → s < zsz S1 → T * 260 + m ≤ a → b ≤ T * 260 + m1 → Body M1 (zg S1) σ a b s → Body M5 (zg S3) σ3 a b s := fun s a b s1 s2 ha hb hBd => by
        refine hBd.keep (Kp.nd hm5 hb) k12 ?_ (fun i hi => k17 i hi.2.1)
        have hs0 := hBd.1.1
        obtain ⟨c3, c6, c7⟩ := k13 s.toNat (by omega) (by omega)
        exact ⟨c6.trans (pLinkB_ne (Or.inl (by decide))), fun t ht => (c7 t ht).trans (pLinkB_ne (Or.inl (by decide)))⟩
      have hbl5 := keepB ls la lb h1 h2 lr1 lr2 hbl
      have eσl : σ3 ls = σ ls := k17 ls h2
      have hop5 : mI M5 2232 (σ ls).toNat ≠ 12 := by rw [← eσl]; exact hbl5.op
      have eσ0 : σ3 (zsz S) = σ (zsz S) := k17 _ a11
      obtain ⟨x0, x1, hx0, hx1, hxb⟩ := (k14 (zsz S1) (Int.le_refl _) k11).1
      have hxr := hxb.2.1
      have hh1 : gHas (zg S1) ls := hbl.1
      have StP6 : StP K M0 M tp n N T S m σ0 (sI M5 2236 (σ ls).toNat (σ3 (zsz S1))) S3 m3 σ3 := by
        refine ⟨?_, ⟨by omega, by omega, by omega⟩, ?_, (a6.trans r2).trans k6, ⟨k7.trans a7, k8, fun k hk => ?_⟩, k10, by omega, a12.trans k12, ?_, ⟨fun s s1 s2 => ?_, fun s s' s1 s2 s3 s4 es => ?_⟩, ?_, fun i hi => (k17 i (by omega)).trans (a17 i hi)⟩
        · have : NM K M0 M5 tp n T S3.1 (-1) S.2.1 (zsz S3) m3 := by rw [← a7]; exact k1
          exact this.node (by omega) (by omega)
        · intro a j j1 j2 j3
          rw [mI_sI, if_neg (by omega)]
          exact ((a5.trans hm5 (by omega)) a j j1 j2 j3)
        · have := k9 k (by show k < S1.2.1; omega)
          exact ⟨this.1.trans (a9 k hk).1, this.2.trans (a9 k hk).2⟩
        · intro s s1 s2
          obtain ⟨c3, c6, c7⟩ := k13 s (by omega) (by omega)
          obtain ⟨d3, d6, d7⟩ := a13 s s1 s2
          exact ⟨(c3.trans (pLinkB_ne (Or.inr (by omega)))).trans d3, (c6.trans (pLinkB_ne (Or.inl (by decide)))).trans d6, fun t ht => ((c7 t ht).trans (pLinkB_ne (Or.inl (by decide)))).trans (d7 t ht)⟩
        · by_cases cs : s < zsz S1
          · obtain ⟨⟨a, b, ha, hb, hBd⟩, hL⟩ := a14 s s1 cs
            have hB5 := keepB s a b s1 cs ha hb hBd
            have hs0 := hBd.1.1
            refine ⟨⟨a, b, ha, by omega, ?_⟩, ?_⟩
            · exact hB5.keep (Kp.next (Or.inl hop5)) (Gr.refl (Int.le_trans k12.1.1 k12.1.2.1) k12.1.2.2) ⟨rfl, fun _ _ => rfl⟩ fun _ _ => rfl
            · by_cases cl : s = ls
              · subst cl
                have hh3 : gHas (zg S3) s := k12.has hh1
                have hc40 := k12.1.2.2
                have hcur : gHas (zg S3) (zsz S1) := hxb.1
                have eb : gBehind (zg S3) s = zsz S1 := by
                  unfold gBehind
                  rw [if_pos hh3]
                  obtain ⟨c3, _, _⟩ := k13 s.toNat (by omega) (by omega)
                  rw [c3]
                  unfold pLinkB
                  rw [if_pos hh1, pU_at, if_pos ⟨rfl, rfl⟩]
                refine Or.inr ⟨by rw [eb]; exact ⟨hcur, h2⟩, ?_, ?_⟩
                · rw [eb, k16, (k12.g hh1).2.2.2.1, h5]
                · rw [eb, eσl, mI_sI_eq]
              · have hne : σ s ≠ σ ls := fun q => cl (a15 s ls s1 cs h1 h2 q)
                have hnb := hBd.2.1
                have hL5 : Lnk M5 (zg S3) σ3 s := by
                  refine hL.keep hBd.1 (hm5 2236 _ (by omega) (by omega) (by omega)) k12 (fun t t1 t2 => ?_) (fun i hi => k17 i hi.2.1)
                  obtain ⟨c3, c6, c7⟩ := k13 t (by omega) (by omega)
                  exact ⟨c3.trans (pLinkB_ne (Or.inr (by omega))), c6.trans (pLinkB_ne (Or.inl (by decide))), fun u hu => (c7 u hu).trans (pLinkB_ne (Or.inl (by decide)))⟩
                have e6 : mI (sI M5 2236 (σ ls).toNat (σ3 (zsz S1))) 2236 (σ3 s).toNat = mI M5 2236 (σ3 s).toNat := by
                  rw [k17 s cs, mI_sI, if_neg (by omega)]
                unfold Lnk at hL5 ⊢
                rw [e6]; exact hL5
          · obtain ⟨⟨a, b, ha, hb, hBd⟩, hL⟩ := k14 s (by omega) s2
            have hnb := hBd.2.1
            refine ⟨⟨a, b, by omega, hb, ?_⟩, ?_⟩
            · exact hBd.keep (Kp.next (Or.inl hop5)) (Gr.refl (Int.le_trans k12.1.1 k12.1.2.1) k12.1.2.2) ⟨rfl, fun _ _ => rfl⟩ fun _ _ => rfl
            · have e6 : mI (sI M5 2236 (σ ls).toNat (σ3 (zsz S1))) 2236 (σ3 s).toNat = mI M5 2236 (σ3 s).toNat := by
                rw [mI_sI, if_neg (by omega)]
              unfold Lnk at hL ⊢
              rw [e6]; exact hL
        · by_cases c1 : s < zsz S1
          · by_cases c2 : s' < zsz S1
            · rw [k17 s c1, k17 s' c2] at es
              exact a15 s s' s1 c1 s3 c2 es
            · obtain ⟨⟨a, b, ha, hb, hBd⟩, _⟩ := a14 s s1 c1
              obtain ⟨⟨a', b', ha', hb', hBd'⟩, _⟩ := k14 s' (by omega) s4
              have := hBd.2.1; have := hBd'.2.1
              rw [k17 s c1] at es
              omega
          · by_cases c2 : s' < zsz S1
            · obtain ⟨⟨a, b, ha, hb, hBd⟩, _⟩ := a14 s' s3 c2
              obtain ⟨⟨a', b', ha', hb', hBd'⟩, _⟩ := k14 s (by omega) s2
              have := hBd.2.1; have := hBd'.2.1
              rw [k17 s' c2] at es
              omega
            · exact k15 s s' (by omega) s2 (by omega) s4 es
        · have h40 : zsz S1 ≤ 40 := Int.le_trans k12.1.2.1 k12.1.2.2
          have hs0h : gHas (zg S1) (zsz S) := ⟨hsz0, a11, by omega⟩
          rw [(k12.g hs0h).2.2.2.1]; exact a16
      have r := ih S3 _ m3 σ3 (zsz S1) (by omega) StP6 (by omega) g2 (by omega) k11 g3 (by rw [mI_sI, if_neg (by omega)]; exact g4) k16
      rw [eσ0] at r
      exact r
    · -- a fault
      have e3f := w1.2.2.1.2.1
      refine ⟨w1.1, fun c2 => absurd c2 (by omega), fun _ => ⟨by omega, by omega, by omega, by omega, ?_⟩⟩
      have w6 := nm_same w1 (o := (σ ls).toNat)
      refine B10_readsProgram_7 (d := d) _ _ w6.1 hM (n_takes hT w6 hM (by omega) (by decide) (fun _ => ⟨w6.1, fun _ => ?_, fun c2 => absurd rfl c2⟩) (fun c => absurd (Int.natCast_nonneg _) c) (fun c => absurd (Int.natCast_nonneg _) c))
      have w4 : (S1.2.1 : Int) ≤ op' := w4
      have w5 : op' ≤ (S1.2.1 : Int) + 1 := w5
      exact q0 _ g p m' op' td _ w6 ((a6.trans r2).fails w2) (((a5.trans b2 (by omega)).trans w3 (by omega)).trans nd_same (by omega)) (by omega) (by omega)
theorem n_prog (hT : Tp tp n) (hM : ModelAt K 2230) (hTb : T < 270) {op d : Nat} (hd : 3 ≤ d) (hstep : StepSpec K tp n N T op d) : ProgSpec K tp n N T op (d + 1) := by
  intro M0 M S m σ0 Q hop hdue hbf hSI h hm q1 q0
  refine B10_readsProgram h.1 hM (hstep M0 M S m σ0 _ hop hdue hSI (by rw [hbf]; have := hSI.1.1.1; omega) h hm (fun M1 S1 m1 σ g1 g2 g3 g4 => ⟨g1.1.1, ?_⟩) (fun M' g p m' op' td x w1 w2 w3 w4 w5 => ⟨w1.1, ?_⟩))
  · have hmm := g1.2.1
    exact n_prog_loop hT hM hTb hd hstep hop hbf q1 q0 (n - S1.1) S1 M1 m1 σ (zsz S) (Nat.le_refl _) g1 (by omega) g2 (Int.le_refl _) g1.2.2.2.2.2.2.1 g3 g4 g1.2.2.2.2.2.2.2.2.2.2.1
  · refine B10_readsProgram_7 (d := d) _ _ w1.1 hM (n_takes hT w1 hM (by omega) (by decide) (fun _ => ⟨w1.1, fun _ => q0 M' g p m' op' td _ w1 w2 w3 w4 w5, fun c2 => absurd rfl c2⟩) (fun c => absurd (Int.natCast_nonneg _) c) (fun c => absurd (Int.natCast_nonneg _) c))
end RPROG
