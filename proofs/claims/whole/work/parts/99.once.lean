/-! once, not, rounds on both sides -/
section ONCE
variable {K M0 : ZMem} {tp : Nat → Int} {n N T : Nat}
/-- the first statement inside -/
theorem Inn.pf {M M1 : ZMem} {S S1 : St} {kd dt : Int} {m m1 : Nat} {σ0 σ : Int → Int} {i : Nat} {fs : Nat → Int} {hi : Nat} {hole due : Int} (h0 : 0 ≤ zsz S) (h40 : zsz S < 40) (h : Inn K M0 M tp n N T S kd dt m σ0 M1 S1 m1 σ i fs hi hole due) {k : Nat} (hk : k < i) (h6 : k < 6) : gPartFirst (zg S1) (zsz S) k = fs k ∧ gHas (zg S1) (fs k) ∧ gAround (zg S1) (fs k) = zsz S := by
  obtain ⟨_, _, ⟨c1, c2, c3, c4⟩, _, e1, _⟩ := h
  obtain ⟨x1, x2, x3⟩ := e1 k hk
  refine ⟨?_, x2, x3⟩
  unfold gPartFirst
  rw [if_pos ⟨⟨h0, c2, h40⟩, by omega, by omega⟩, show (zsz S * 6 + (k : Int)).toNat = (zsz S).toNat * 6 + k by omega]
  exact x1
theorem n_once {d : Nat} (hT : Tp tp n) (hM : ModelAt K 2230) (hTb : T < 270) (hd : 4 ≤ d) {M M1 : ZMem} {S : St} {m pb : Nat} {kd oc : Int} {σ0 : Int → Int} {Q : Int → ZMem → Prop} (hprog : ProgSpec K tp n N T (S.2.1 + 1) d) (h : SI n S) (hdue : S.2.2.2.2.1 = 1) (h40 : zsz S < 40) (hb : S.2.2.2.1 S.2.1 < zsz S) (hm : m ≤ S.1) (hp : S.1 ≤ pb) (hko : (kd = 6 ∧ oc = 13) ∨ (kd = 7 ∧ oc = 14)) (hz : tp pb = 91 → zStmt tp N S = zOpen (zAdd (zP S pb) kd 0) (zsz S)) (hf : (tp pb ≠ 91 ∨ (S.2.1 : Int) = 6) → Fails tp N n S pb) (hn : NM K M0 M1 tp n T pb (-1) S.2.1 (zsz S + 1) m) (hnd : ndB (T * 260 + m) M M1)
    (q1 : ∀ M' S' m' σ, StP K M0 M tp n N T S m σ0 M' S' m' σ → S'.2.2.2.1 S.2.1 = zsz S → gBehind (zg S') (zsz S) = -1 → mI M' 2236 (σ (zsz S)).toNat = -1 → Q (σ (zsz S)) M') (q0 : SFail K M0 M tp n N T S m Q) : Ci (d + 1) q10_readsBrackets [zr 2230, zi 91, zi 93] M1 (fun x2 M2 => KW K M2 ∧ Ci (d + 1) q10_writes [zr 2230, zi oc, zi x2, zi 0, zi 0] M2 (fun x3 M3 => KW K M3 ∧ Q x3 M3)) := by
  have hn150 := hT.1
  have h0 := h.1.1.1
  refine n_brackets (σ0 := σ0) hT hM hd hprog h hdue h40 hb hm hp (kd := kd) (dt := 0) (by decide) (by decide) (Or.inr ⟨rfl, by omega⟩) hz hf hn hnd (fun M2 M3 S1 m1 σ fs g1 g2 g3 g4 g5 => ⟨g4.1, ?_⟩) (fun M' g p m' op td x w1 w2 w3 w4 w5 => ⟨w1.1, n_writes_fault hM (Int.natCast_nonneg _) hTb w1 fun y => ⟨w1.1, q0 M' g p m' op td y w1 w2 w3 w4 w5⟩⟩)
  have hmb := g1.1.2.1
  have hSb := g1.2.2.1.1
  have hlv := g1.2.1.1
  have hS6 := hSb.1.2.2.2.2.1
  have hS1n := hSb.2.1
  have gg := g1
  obtain ⟨_, _, _, ⟨d1, d2, d3, d4, d5, d6⟩, _⟩ := gg
  refine n_writes g4 hM hTb (fun _ => by omega) (fun c => absurd c (by decide)) fun _ M5 a5 g6 s5 => ⟨a5.1, ?_⟩
  obtain ⟨S', r1, r2, r3, r4⟩ := Inn_close (M2 := M5) h h40 hTb (by omega) g1 (by omega) g3 a5 (g5.trans g6 (Nat.le_refl _)) s5.2.2.2.2 (fun σ' e1 e2 => by
    obtain ⟨u1, u2, u3⟩ := g1.pf h0 h40 (k := 0) (by decide) (by decide)
    have u1 : gPartFirst (zg S1) (zsz S) 0 = fs 0 := u1
    refine Or.inr (Or.inr (Or.inr (Or.inr (Or.inr (Or.inl ⟨?_, by rw [d6]; decide, by rw [d5]; omega, by rw [u1]; exact u2, by rw [u1]; exact u3, ?_⟩)))))
    · rw [e1, Int.toNat_natCast, d3, s5.1]
      exact hko
    · rw [e1, Int.toNat_natCast, s5.2.1, u1, e2 _ (by omega), g2])
  have := q1 _ _ _ _ r1 r2 r3 r4
  rw [sUp_self] at this
  exact this
theorem n_rounds {d : Nat} (hT : Tp tp n) (hM : ModelAt K 2230) (hTb : T < 270) (hd : 4 ≤ d) {M M1 : ZMem} {S : St} {m pb : Nat} {dt : Int} {σ0 : Int → Int} {Q : Int → ZMem → Prop} (hprog : ProgSpec K tp n N T (S.2.1 + 1) d) (h : SI n S) (hdue : S.2.2.2.2.1 = 1) (h40 : zsz S < 40) (hb : S.2.2.2.1 S.2.1 < zsz S) (hm : m ≤ S.1) (hp : S.1 ≤ pb) (hdt : 1 ≤ dt ∧ dt ≤ 9) (hz : tp pb = 40 → zStmt tp N S = zOpen (zAdd (zP S pb) 9 dt) (zsz S)) (hf : (tp pb ≠ 40 ∨ (S.2.1 : Int) = 6) → Fails tp N n S pb) (hn : NM K M0 M1 tp n T pb (-1) S.2.1 (zsz S + 1) m) (hnd : ndB (T * 260 + m) M M1)
    (q1 : ∀ M' S' m' σ, StP K M0 M tp n N T S m σ0 M' S' m' σ → S'.2.2.2.1 S.2.1 = zsz S → gBehind (zg S') (zsz S) = -1 → mI M' 2236 (σ (zsz S)).toNat = -1 → Q (σ (zsz S)) M') (q0 : SFail K M0 M tp n N T S m Q) : Ci (d + 1) q10_readsBrackets [zr 2230, zi 40, zi 41] M1 (fun x2 M2 => KW K M2 ∧ Ci (d + 1) q10_writes [zr 2230, zi 16, zi dt, zi x2, zi 0] M2 (fun x3 M3 => KW K M3 ∧ Q x3 M3)) := by
  have hn150 := hT.1
  have h0 := h.1.1.1
  refine n_brackets (σ0 := σ0) hT hM hd hprog h hdue h40 hb hm hp (kd := 9) (dt := dt) (by omega) (by decide) (Or.inl ⟨rfl, rfl⟩) hz hf hn hnd (fun M2 M3 S1 m1 σ fs g1 g2 g3 g4 g5 => ⟨g4.1, ?_⟩) (fun M' g p m' op td x w1 w2 w3 w4 w5 => ⟨w1.1, n_writes_fault hM (Int.natCast_nonneg _) hTb w1 fun y => ⟨w1.1, q0 M' g p m' op td y w1 w2 w3 w4 w5⟩⟩)
  have hmb := g1.1.2.1
  have hSb := g1.2.2.1.1
  have hlv := g1.2.1.1
  have hS6 := hSb.1.2.2.2.2.1
  have hS1n := hSb.2.1
  have gg := g1
  obtain ⟨_, _, _, ⟨d1, d2, d3, d4, d5, d6⟩, _⟩ := gg
  refine n_writes g4 hM hTb (fun _ => by omega) (fun c => absurd c (by decide)) fun _ M5 a5 g6 s5 => ⟨a5.1, ?_⟩
  obtain ⟨S', r1, r2, r3, r4⟩ := Inn_close (M2 := M5) h h40 hTb (by omega) g1 (by omega) g3 a5 (g5.trans g6 (Nat.le_refl _)) s5.2.2.2.2 (fun σ' e1 e2 => by
    obtain ⟨u1, u2, u3⟩ := g1.pf h0 h40 (k := 0) (by decide) (by decide)
    have u1 : gPartFirst (zg S1) (zsz S) 0 = fs 0 := u1
    refine Or.inr (Or.inr (Or.inr (Or.inr (Or.inr (Or.inr (Or.inr ⟨d3, ?_, ?_, by rw [d6]; exact hdt, by rw [d5]; omega, by rw [u1]; exact u2, by rw [u1]; exact u3, ?_⟩))))))
    · rw [e1, Int.toNat_natCast]; exact s5.1
    · rw [e1, Int.toNat_natCast, d6]; exact s5.2.1
    · rw [e1, Int.toNat_natCast, s5.2.2.1, u1, e2 _ (by omega), g2])
  have := q1 _ _ _ _ r1 r2 r3 r4
  rw [sUp_self] at this
  exact this
end ONCE
