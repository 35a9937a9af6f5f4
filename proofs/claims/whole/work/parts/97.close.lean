/-! a bracket opens and closes, on both sides -/
section CLOSE
variable {K M0 : ZMem} {tp : Nat → Int} {n N T : Nat}
/-- behind the opening bracket -/
theorem Inn_in {M M1 : ZMem} {S : St} {pb : Nat} {kd dt : Int} {m : Nat} {σ0 : Int → Int} (h : SI n S) (h40 : zsz S < 40) (hb : S.2.2.2.1 S.2.1 < zsz S) (hop : S.2.1 < 6) (hp : S.1 ≤ pb) (hpn : pb + 1 ≤ n) (hn150 : n ≤ 150) (hdt : -1000 ≤ dt ∧ dt ≤ 1000) (hkd : kd = 5 ∨ kd = 6 ∨ kd = 7 ∨ kd = 9) (hdue : S.2.2.2.2.1 = 1) (hz : zStmt tp N S = zOpen (zAdd (zP S pb) kd dt) (zsz S)) (hn : NM K M0 M1 tp n T (pb + 1) (-1) ((S.2.1 : Int) + 1) (zsz S + 1) m) (hnd : ndB (T * 260 + m) M M1) (fs : Nat → Int) (hi : Nat) : Inn K M0 M tp n N T S kd dt m σ0 M1 (zIn S pb kd dt) m σ0 0 fs hi (-1) 1 := by
  have hs0 := h.1.1.1
  obtain ⟨g1, g2, g3, g4, g5, g6, g7, g8, g9⟩ := in_new (pb := pb) (kd := kd) (dt := dt) h h40 hb
  obtain ⟨e2, ej, e6⟩ := in_facts (pb := pb) (kd := kd) (dt := dt) h h40 hb
  have esz : zsz (zIn S pb kd dt) = zsz S + 1 := congrArg (fun x : Fm × Fm × Int => x.2.2) e2
  have hst := step_due (tp := tp) (N := N) (n := n) hdue
  have hzz : zStep tp N n S = (1, zIn S pb kd dt) := by rw [hst, hz, zOpen_in hop]
  have hr := reach_step (tp := tp) (N := N) (n := n) (S := S) h.2.1 (by rw [hzz]) (by rw [hzz]; show S.1 < pb + 1; omega)
  rw [hzz] at hr
  refine ⟨⟨by rw [esz]; exact hn, ⟨by show S.1 < pb + 1; omega, Nat.le_refl _, ?_⟩, hnd, hr⟩, ⟨rfl, rfl, fun k hk => ⟨rfl, ?_⟩⟩, ⟨in_SI h h40 hb hop hp hpn hn150 hdt hkd, by omega, g1, g2⟩, ⟨g3, by rw [e6, if_pos (by omega)]; rfl, g5, g6, g7, g8⟩, fun k hk => absurd hk (by omega), ⟨fun t t1 t2 => by omega, fun t t' t1 t2 t3 t4 _ => by omega⟩, fun _ _ => rfl⟩
  · show (m : Int) + S.1 + 1 ≤ m + ((pb + 1 : Nat) : Int)
    omega
  · show fup (fup S.2.2.2.1 S.2.1 (zsz S)) (S.2.1 + 1) (-1) k = _
    rw [fup_ne (by omega)]
/-- behind the closing bracket -/
theorem Inn_close {M M1 M2 : ZMem} {S S1 : St} {kd dt : Int} {m m1 : Nat} {σ0 σ : Int → Int} {i : Nat} {fs : Nat → Int} {hi : Nat} {hole : Int} (hS : SI n S) (h40 : zsz S < 40) (hT : T < 270) (hB : m1 < 260) (h : Inn K M0 M tp n N T S kd dt m σ0 M1 S1 m1 σ i fs hi hole 0) (hhi : hi ≤ T * 260 + m1) (hz : zBehind tp n S1 = (1, S1.1 + 1, S1.2.1 - 1, S1.2.2)) (hn : NM K M0 M2 tp n T (S1.1 + 1) (-1) S.2.1 (zsz S1) (m1 + 1)) (hnd : ndB (T * 260 + m1) M1 M2) (hnx : mI M2 2236 (T * 260 + m1) = -1)
    (hk : (∀ σ' : Int → Int, σ' (zsz S) = ((T * 260 + m1 : Nat) : Int) → (∀ j, j ≠ zsz S → σ' j = σ j) → Kds M2 (zg S1) σ' (T * 260 + m) (T * 260 + m1 + 1) (zsz S))) :
    ∃ S', StP K M0 M tp n N T S m σ0 M2 S' (m1 + 1) (sUp σ (zsz S) ((T * 260 + m1 : Nat) : Int)) ∧ S'.2.2.2.1 S.2.1 = zsz S ∧ gBehind (zg S') (zsz S) = -1 ∧ mI M2 2236 (sUp σ (zsz S) ((T * 260 + m1 : Nat) : Int) (zsz S)).toNat = -1 := by
  have hs0 := hS.1.1.1
  obtain ⟨⟨a1, ⟨a2, a3, a4⟩, a5, a6⟩, ⟨b1, b2, b3⟩, ⟨c1, c2, c3, c4⟩, ⟨d1, d2, d3, d4, d5, d6⟩, e1, ⟨f1, f2⟩, f3⟩ := h
  have hh : gHas (zg S1) (zsz S) := ⟨hs0, c2, h40⟩
  have h40' := c3.1.2.2
  have hzz : zStep tp N n S1 = (1, S1.1 + 1, S1.2.1 - 1, S1.2.2) := by rw [step_behind b2]; exact hz
  have hr := reach_step (tp := tp) (N := N) (n := n) (S := S1) c1.2.1 (by rw [hzz]) (by rw [hzz]; show S1.1 < S1.1 + 1; omega)
  rw [hzz] at hr
  have hσ : (sUp σ (zsz S) ((T * 260 + m1 : Nat) : Int) (zsz S)).toNat = T * 260 + m1 := by rw [sUp_self]; omega
  have hnx' : mI M2 2236 (sUp σ (zsz S) ((T * 260 + m1 : Nat) : Int) (zsz S)).toNat = -1 := by rw [hσ]; exact hnx
  have hbeh : gBehind (zg S1) (zsz S) = -1 := by unfold gBehind; rw [if_pos hh]; exact d1
  have hsg : ∀ j, j ≠ zsz S → sUp σ (zsz S) ((T * 260 + m1 : Nat) : Int) j = σ j := fun j hj => if_neg hj
  have hSI : SI n (S1.1 + 1, S1.2.1 - 1, S1.2.2) := by
    obtain ⟨⟨p1, p2, p3, p4, p5, p6⟩, q1, q2⟩ := c1
    refine ⟨⟨p1, p2, ⟨p3.1, ?_⟩, ⟨p4.1, ?_⟩, by show S1.2.1 - 1 ≤ 6; omega, p6⟩, hn.2.2.2.2.2, fun k hk => q2 k (by have hk : k < S1.2.1 - 1 := hk; omega)⟩
    · have := p3.2
      show (zg S1).2.1.2.2.2.1 ≤ ((S1.1 + 1 : Nat) : Int)
      omega
    · have := p4.2
      show (zg S1).2.1.2.2.2.2 ≤ ((S1.1 + 1 : Nat) : Int)
      omega
  have hin : ∀ t, zsz S < t → t < zsz S1 → ∃ a b : Nat, T * 260 + m ≤ a ∧ b ≤ hi ∧ Body M2 (zg S1) (sUp σ (zsz S) ((T * 260 + m1 : Nat) : Int)) a b t ∧ Lnk M2 (zg S1) (sUp σ (zsz S) ((T * 260 + m1 : Nat) : Int)) t := fun t t1 t2 => by
    obtain ⟨⟨a, b, ha, hb, _, hBd⟩, hL⟩ := f1 t t1 t2
    have hnb := hBd.2.1
    have hr0 : Gr (zg S1) (zg S1) := Gr.refl (Int.le_trans c3.1.1 c3.1.2.1) h40'
    have hB2 := hBd.keep (Kp.nd hnd (by omega)) hr0 ⟨rfl, fun _ _ => rfl⟩ fun _ _ => rfl
    have hL2 := hL.keep hBd.1 (hnd 2236 _ (by omega) (by omega) (by omega)) hr0 Cl.refl fun _ _ => rfl
    refine ⟨a, b, ha, hb, hB2.sig hsg (by omega) ?_, hL2.sig hsg t1⟩
    rw [d4]
    rcases hS.ar with q | q
    · omega
    · have q2 : zAr S < zsz S := q.1.2.1
      omega
  have har : lvI (zg S1) (zAr S) = (S.2.1 : Int) := by
    rw [lvI_gr c3 (hS.ar.elim Or.inl fun q => Or.inr q.1)]; exact hS.lv
  have hLv : gLevel (zg S1) (zsz S) = lvI (zg S1) (gAround (zg S1) (zsz S)) := by rw [d5, d4]; exact har.symm
  have hAr : gAround (zg S1) (zsz S) = -1 ∨ gHas (zg S1) (gAround (zg S1) (zsz S)) := by
    rw [d4]
    exact hS.ar.elim Or.inl fun q => Or.inr (c3.has q.1)
  refine ⟨(S1.1 + 1, S1.2.1 - 1, S1.2.2), ⟨hn, ⟨by show S.1 < S1.1 + 1; omega, by omega, by show m1 + 1 + S.1 ≤ m + (S1.1 + 1); omega⟩, a5.trans hnd (by omega), a6.trans hr, ⟨by show S1.2.1 - 1 = S.2.1; omega, b2, fun k hk => ?_⟩, hSI, c2, c3, c4, ⟨fun t t1 t2 => ?_, fun t t' t1 t2 t3 t4 et => ?_⟩, d4, fun j hj => ?_⟩, ?_, hbeh, hnx'⟩
  · obtain ⟨x1, x2⟩ := b3 k (by omega)
    rw [fup_ne (by omega)] at x1 x2
    exact ⟨x1, x2⟩
  · by_cases c : t = zsz S
    · subst c
      refine ⟨⟨T * 260 + m, T * 260 + m1 + 1, Nat.le_refl _, by omega, hh, ⟨?_, ?_, by omega⟩, hLv, hAr, hk _ sUp_self hsg⟩, Or.inl ⟨hbeh, hnx'⟩⟩
      · rw [sUp_self]; omega
      · rw [sUp_self]; omega
    · obtain ⟨a, b, ha, hb, hB, hL⟩ := hin t (by omega) t2
      exact ⟨⟨a, b, ha, by omega, hB⟩, hL⟩
  · by_cases cx : t = zsz S
    · by_cases cy : t' = zsz S
      · omega
      · obtain ⟨a, b, ha, hb, hB, hL⟩ := hin t' (by omega) t4
        have := hB.2.1
        rw [← et, cx, sUp_self] at this
        omega
    · by_cases cy : t' = zsz S
      · obtain ⟨a, b, ha, hb, hB, hL⟩ := hin t (by omega) t2
        have := hB.2.1
        rw [et, cy, sUp_self] at this
        omega
      · rw [hsg t cx, hsg t' cy] at et
        exact f2 t t' (by omega) t2 (by omega) t4 et
  · rw [hsg j (by omega)]; exact f3 j hj
  · obtain ⟨x1, x2⟩ := b3 S.2.1 (by omega)
    rw [fup_self] at x2
    exact x2
end CLOSE
