/-! once, not, rounds: the whole bracket, on both sides -/
section BRACK2
variable {K M0 : ZMem} {tp : Nat → Int} {n N T : Nat}
theorem n_opens {d p m : Nat} {op td a1 : Int} {M : ZMem} {Q : Int → ZMem → Prop} (hT : Tp tp n) (hM : ModelAt K 2230) (hd : 4 ≤ d) (ha : 1 ≤ a1) (hop : 0 ≤ op ∧ op ≤ 6) (h : NM K M0 M tp n T p (-1) op td m)
    (q1 : tp p = a1 → op < 6 → p < n → ∀ M', NM K M0 M' tp n T (p + 1) (-1) (op + 1) td m → ndB (T * 260 + m) M M' → Q 1 M')
    (q0 : (tp p ≠ a1 ∨ op = 6) → ∀ M', NM K M0 M' tp n T p p (op + 1) td m → ndB (T * 260 + m) M M' → Q 0 M') : Ci d q10_opens [zr 2230, zi a1] M Q := by
  obtain ⟨d, rfl⟩ : ∃ e, d = e + 1 := ⟨d - 1, by omega⟩
  have e3 := h.2.2.1.2.1
  have e4 := h.2.2.1.2.2.1
  have e2 := h.2.2.1.1
  -- what comes behind the wish for the bracket
  have bad : ∀ M1, NM K M0 M1 tp n T p p op td m → ndB (T * 260 + m) M M1 → (tp p ≠ a1 ∨ op = 6) → inR ((mI M1 2230 4) + 1) ∧ ((0 ≤ (mI (sI M1 2230 4 ((mI M1 2230 4) + 1)) 2230 3) → Q 0 (sI M1 2230 4 ((mI M1 2230 4) + 1))) ∧ (¬ (0 ≤ (mI (sI M1 2230 4 ((mI M1 2230 4) + 1)) 2230 3)) → Q 1 (sI M1 2230 4 ((mI M1 2230 4) + 1)))) := fun M1 a g c => by
    have r4 := a.2.2.1.2.2.1
    have a' := a.ops (x := (mI M1 2230 4) + 1)
    have r3 := a'.2.2.1.2.1
    refine ⟨⟨by omega, by omega⟩, fun _ => q0 c _ (by rw [r4] at a' ⊢; exact a') g.sc, fun c2 => absurd (by rw [r3]; exact Int.natCast_nonneg _) c2⟩
  have good : ∀ M1, NM K M0 M1 tp n T (p + 1) (-1) op td m → ndB (T * 260 + m) M M1 → tp p = a1 → op < 6 → p < n → inR ((mI M1 2230 4) + 1) ∧ ((0 ≤ (mI (sI M1 2230 4 ((mI M1 2230 4) + 1)) 2230 3) → Q 0 (sI M1 2230 4 ((mI M1 2230 4) + 1))) ∧ (¬ (0 ≤ (mI (sI M1 2230 4 ((mI M1 2230 4) + 1)) 2230 3)) → Q 1 (sI M1 2230 4 ((mI M1 2230 4) + 1)))) := fun M1 a g c1 c2 c3 => by
    have r4 := a.2.2.1.2.2.1
    have a' := a.ops (x := (mI M1 2230 4) + 1)
    have r3 := a'.2.2.1.2.1
    refine ⟨⟨by omega, by omega⟩, fun c2 => absurd c2 (by rw [r3]; decide), fun _ => q1 c1 c2 c3 _ (by rw [r4] at a' ⊢; exact a') g.sc⟩
  refine B10_opens a1 h.1 hM ⟨fun c => absurd c (by omega), fun _ => n_peek hT h hM (by omega) ⟨h.1, fun ne => ?_, fun e => ⟨fun ne6 => ?_, fun e6 => ?_⟩⟩⟩
  · exact n_wants hT h hM (by omega) ha (fun c => absurd c (by decide)) (fun _ c M1 a g => ⟨a.1, bad M1 a g (Or.inl c)⟩) (fun _ c => absurd c ne)
  · have e : tp p = a1 := Decidable.not_not.mp e
    exact n_wants hT h hM (by omega) ha (fun c => absurd c (by decide)) (fun _ c => absurd e c) (fun _ c hin M1 a g => ⟨a.1, good M1 a g e (by omega) hin⟩)
  · have e6 : op = 6 := by omega
    refine n_wrong h hM fun M1 a g => ⟨a.1, ?_⟩
    rw [if_neg (by decide), e2] at a
    exact n_wants_fault hT hM (by omega) (Int.natCast_nonneg _) ha a fun M2 a2 g2 => ⟨a2.1, bad M2 a2 (g.trans (g2 _) (Nat.le_refl _)) (Or.inr e6)⟩
theorem zb_close {S1 : St} {s kd a2 : Int} (h59 : tp S1.1 ≠ 59) (ear : zAr S1 = s) (ek : gKind (zg S1) s = kd) (h1 : 1 ≤ S1.2.1) (hcl : (a2 = 41 ∧ kd = 9) ∨ (a2 = 93 ∧ (kd = 6 ∨ kd = 7))) : (tp S1.1 = a2 → zBehind tp n S1 = (1, S1.1 + 1, S1.2.1 - 1, S1.2.2)) ∧ (tp S1.1 ≠ a2 → zBehind tp n S1 = (0, S1)) := by
  unfold zBehind
  rw [ear, ek, if_neg h59, if_neg (by omega)]
  exact ⟨fun q => if_pos (by omega), fun q => by rw [if_neg (by omega), if_neg (by omega)]⟩
theorem Inn.ar {M M1 : ZMem} {S S1 : St} {kd dt : Int} {m m1 : Nat} {σ0 σ : Int → Int} {i : Nat} {fs : Nat → Int} {hi : Nat} {hole due : Int} (h : Inn K M0 M tp n N T S kd dt m σ0 M1 S1 m1 σ i fs hi hole due) : zAr S1 = zsz S := by
  obtain ⟨_, ⟨b1, b2, b3⟩, _⟩ := h
  unfold zAr
  rw [if_pos (by omega), b1, show S.2.1 + 1 - 1 = S.2.1 by omega, (b3 S.2.1 (by omega)).1, fup_self]
theorem n_brackets {d : Nat} (hT : Tp tp n) (hM : ModelAt K 2230) (hd : 4 ≤ d) {M M1 : ZMem} {S : St} {m pb : Nat} {kd dt a1 a2 : Int} {σ0 : Int → Int} {R : Int → ZMem → Prop} (hprog : ProgSpec K tp n N T (S.2.1 + 1) d) (h : SI n S) (hdue : S.2.2.2.2.1 = 1) (h40 : zsz S < 40) (hb : S.2.2.2.1 S.2.1 < zsz S) (hm : m ≤ S.1) (hp : S.1 ≤ pb) (hdt : -1000 ≤ dt ∧ dt ≤ 1000) (ha : 1 ≤ a1 ∧ 1 ≤ a2) (hcl : (a2 = 41 ∧ kd = 9) ∨ (a2 = 93 ∧ (kd = 6 ∨ kd = 7))) (hz : tp pb = a1 → zStmt tp N S = zOpen (zAdd (zP S pb) kd dt) (zsz S)) (hf : (tp pb ≠ a1 ∨ (S.2.1 : Int) = 6) → Fails tp N n S pb) (hn : NM K M0 M1 tp n T pb (-1) S.2.1 (zsz S + 1) m) (hnd : ndB (T * 260 + m) M M1)
    (r1 : ∀ (M2 M3 : ZMem) (S1 : St) (m1 : Nat) (σ : Int → Int) (fs : Nat → Int), Inn K M0 M tp n N T S kd dt m σ0 M2 S1 m1 σ 1 fs (T * 260 + m1) (-1) 0 → fs 0 = zsz S + 1 → zBehind tp n S1 = (1, S1.1 + 1, S1.2.1 - 1, S1.2.2) → NM K M0 M3 tp n T (S1.1 + 1) (-1) S.2.1 (zsz S1) m1 → ndB (T * 260 + m1) M2 M3 → R (σ (zsz S + 1)) M3)
    (r0 : ∀ (M' : ZMem) (g p m' : Nat) (op td x : Int), NM K M0 M' tp n T p g op td m' → Fails tp N n S g → ndB (T * 260 + m) M M' → (S.2.1 : Int) ≤ op → op ≤ (S.2.1 : Int) + 1 → R x M') : Ci (d + 1) q10_readsBrackets [zr 2230, zi a1, zi a2] M1 R := by
  have hop6 := h.1.2.2.2.2.1
  have hn150 := hT.1
  refine B10_readsBrackets a1 a2 hn.1 hM (n_opens hT hM (by omega) ha.1 (by omega) hn (fun c1 c2 c3 M2 b2 g2 => ⟨b2.1, fun _ => ?_, fun c => absurd (by decide) c⟩) (fun c M2 b2 g2 => ⟨b2.1, fun c => absurd rfl c, fun _ => r0 M2 pb pb m _ _ 0 b2 (hf c) (hnd.trans g2 (Nat.le_refl _)) (by omega) (by omega)⟩))
  have hIn := Inn_in (M0 := M0) (M := M) (σ0 := σ0) h h40 hb (by omega) hp (by omega) hn150 hdt (by omega) hdue (hz c1) b2 (hnd.trans g2 (Nat.le_refl _)) (fun _ => 0) 0
  have hr := hIn.1.2.2.2
  have esz : zsz (zIn S pb kd dt) = zsz S + 1 := congrArg (fun x : Fm × Fm × Int => x.2.2) (in_facts (pb := pb) (kd := kd) (dt := dt) h h40 hb).1
  have hb1 : (((S.2.1 + 1 : Nat)) : Int) = (S.2.1 : Int) + 1 := by omega
  have hnd2 := hIn.1.2.2.1
  refine hprog M0 M2 (zIn S pb kd dt) m σ0 _ rfl rfl fup_self (in_SI h h40 hb (by omega) hp (by omega) hn150 hdt (by omega)) (by rw [esz, hb1]; exact b2) (by show m ≤ pb + 1; omega) (fun M3 S3 m3 σ3 g3 h59 => ⟨g3.1.1, ?_⟩) (fun M' g p m' op' td x w1 w2 w3 w4 w5 => ⟨w1.1, ?_⟩)
  · have hI3 := Inn_part h.1.1.1 h40 hIn fup_self (by omega) (by omega) (by decide) g3
    have hkd3 := hI3.2.2.2.1.2.2.1
    have hzb := zb_close (n := n) (tp := tp) h59 hI3.ar hkd3 (by have := hI3.2.1.1; omega) hcl
    have n3 := hI3.1.1
    have nd3 := hI3.1.2.2.1
    have hp3 := hI3.2.2.1.1.2.1
    have hm3 := hI3.1.2.1.2.1
    rw [esz] at *
    refine n_wants hT n3 hM (by omega) ha.2 (fun c => absurd c (by decide)) (fun _ c M4 b4 g4 => ⟨b4.1, ?_⟩) (fun _ c hin M4 b4 g4 => ⟨b4.1, ?_⟩)
    · have hzz : zStep tp N n S3 = (0, S3) := by rw [step_behind hI3.2.1.2.1]; exact hzb.2 c
      have hf3 := fails_step (tp := tp) (N := N) (n := n) (S := S3) hp3 (by rw [hzz])
      rw [hzz] at hf3
      have r4 := b4.2.2.1.2.2.1
      have b5 := b4.ops (x := (mI M4 2230 4) - 1)
      refine ⟨⟨by omega, by omega⟩, r0 _ S3.1 S3.1 m3 _ _ _ b5 (hI3.1.2.2.2.fails hf3) ((nd3.trans g4 (by omega)).sc) (by omega) (by omega)⟩
    · have r4 := b4.2.2.1.2.2.1
      have b5 := b4.ops (x := (mI M4 2230 4) - 1)
      rw [show (mI M4 2230 4) - 1 = (S.2.1 : Int) by omega] at b5 ⊢
      exact ⟨⟨by omega, by omega⟩, r1 M3 _ S3 m3 σ3 _ hI3 rfl (hzb.1 c) b5 g4.sc⟩
  · have w4 : (((S.2.1 + 1 : Nat)) : Int) ≤ op' := w4
    have w5 : op' ≤ (((S.2.1 + 1 : Nat)) : Int) + 1 := w5
    refine n_wants_fault hT hM (by omega) (Int.natCast_nonneg _) ha.2 w1 fun M3 b3 g3 => ⟨b3.1, ?_⟩
    have r4 := b3.2.2.1.2.2.1
    have b5 := b3.ops (x := (mI M3 2230 4) - 1)
    exact ⟨⟨by omega, by omega⟩, r0 _ g p m' _ _ _ b5 (hr.fails w2) (((hnd2.trans w3 (Nat.le_refl _)).trans (g3 _) (Nat.le_refl _)).sc) (by omega) (by omega)⟩
end BRACK2
