/-! inside a bracket, on both sides -/
section INNER
variable {K M0 : ZMem} {tp : Nat → Int} {n N T : Nat}
/-- what came about inside a bracket that began at S: i parts, their first statements, nodes below hi, none at hole -/
def Inn (K M0 M : ZMem) (tp : Nat → Int) (n N T : Nat) (S : St) (kd dt : Int) (m : Nat) (σ0 : Int → Int) (M1 : ZMem) (S1 : St) (m1 : Nat) (σ : Int → Int) (i : Nat) (fs : Nat → Int) (hi : Nat) (hole due : Int) : Prop :=
  (NM K M0 M1 tp n T S1.1 (-1) ((S.2.1 : Int) + 1) (zsz S1) m1 ∧ (S.1 < S1.1 ∧ m ≤ m1 ∧ (m1 : Int) + S.1 + due ≤ m + S1.1) ∧ ndB (T * 260 + m) M M1 ∧ Reach tp N n S S1) ∧
  (S1.2.1 = S.2.1 + 1 ∧ S1.2.2.2.2.1 = due ∧ ∀ k, k < S.2.1 + 1 → S1.2.2.1 k = fup S.2.2.1 S.2.1 (zsz S) k ∧ S1.2.2.2.1 k = fup S.2.2.2.1 S.2.1 (zsz S) k) ∧
  (SI n S1 ∧ zsz S < zsz S1 ∧ Gr (zg S) (zg S1) ∧ Cl (zLnk (zg S) (zAr S) (S.2.2.2.1 S.2.1) (zsz S)) (zg S1) 0 (zsz S)) ∧
  ((zg S1).1 3 (zsz S).toNat = -1 ∧ (zg S1).1 6 (zsz S).toNat = i + due ∧ gKind (zg S1) (zsz S) = kd ∧ gAround (zg S1) (zsz S) = zAr S ∧ gLevel (zg S1) (zsz S) = (S.2.1 : Int) ∧ gDetail (zg S1) (zsz S) = dt) ∧
  (∀ k, k < i → (zg S1).1 7 ((zsz S).toNat * 6 + k) = fs k ∧ gHas (zg S1) (fs k) ∧ gAround (zg S1) (fs k) = zsz S) ∧
  ((∀ t, zsz S < t → t < zsz S1 → (∃ a b : Nat, T * 260 + m ≤ a ∧ b ≤ hi ∧ (hole < a ∨ b ≤ hole) ∧ Body M1 (zg S1) σ a b t) ∧ Lnk M1 (zg S1) σ t) ∧ ∀ t t', zsz S < t → t < zsz S1 → zsz S < t' → t' < zsz S1 → σ t = σ t' → t = t') ∧ ∀ j, j < zsz S → σ j = σ0 j
theorem pLinkF_at {P : Pg} {ar s : Int} {i : Nat} (h : gHas P ar) (h6 : P.1 6 ar.toNat = (i : Int) + 1) (hi : i < 6) {j t : Nat} : (pLinkF P ar s).1 j t = if j = 7 ∧ t = ar.toNat * 6 + i then s else P.1 j t := by
  have h0 := h.1
  have h40 := h.2.2
  have e : pSlot P ar = ar * 6 + i := by unfold pSlot; omega
  unfold pLinkF
  rw [if_pos ⟨h, by omega⟩, pU_at, e]
  by_cases c : j = 7 ∧ t = ar.toNat * 6 + i
  · rw [if_pos c, if_pos (by omega)]
  · rw [if_neg c, if_neg (by omega)]
/-- a part was read -/
theorem Inn_part {M M2 M3 : ZMem} {S S2 S3 : St} {kd dt : Int} {m m2 m3 : Nat} {σ0 σ2 σ3 : Int → Int} {i : Nat} {fs : Nat → Int} {hi : Nat} {hole : Int} (h0 : 0 ≤ zsz S) (h40 : zsz S < 40) (h : Inn K M0 M tp n N T S kd dt m σ0 M2 S2 m2 σ2 i fs hi hole 1) (hB : S2.2.2.2.1 (S.2.1 + 1) = -1) (hhi : hi ≤ T * 260 + m2) (hho : hole < T * 260 + m2) (hi6 : i < 6) (g : StP K M0 M2 tp n N T S2 m2 σ2 M3 S3 m3 σ3) : Inn K M0 M tp n N T S kd dt m σ0 M3 S3 m3 σ3 (i + 1) (fun k => if k = i then zsz S2 else fs k) (T * 260 + m3) hole 0 := by
  obtain ⟨⟨a1, ⟨a2, a3, a4⟩, a5, a6⟩, ⟨b1, b2, b3⟩, ⟨c1, c2, c3, c4⟩, ⟨d1, d2, d3, d4, d5, d6⟩, e1, ⟨f1, f2⟩, f3⟩ := h
  obtain ⟨g1, ⟨g2, g3, g4⟩, g5, g6, ⟨g7, g8, g9⟩, g10, g11, g12, g13, ⟨g14, g15⟩, g16, g17⟩ := g
  have hh2 : gHas (zg S2) (zsz S) := ⟨h0, c2, h40⟩
  have ear : zAr S2 = zsz S := by
    unfold zAr
    rw [if_pos (by omega), b1, show S.2.1 + 1 - 1 = S.2.1 by omega, (b3 S.2.1 (by omega)).1, fup_self]
  have h40' : zsz S3 ≤ 40 := g12.1.2.2
  have hln : ∀ j t : Nat, (zLnk (zg S2) (zAr S2) (S2.2.2.2.1 S2.2.1) (zsz S2)).1 j t = if j = 7 ∧ t = (zsz S).toNat * 6 + i then zsz S2 else (zg S2).1 j t := fun j t => by
    unfold zLnk
    rw [b1, hB, if_pos rfl, ear]
    exact pLinkF_at hh2 (by omega) hi6
  have hC : ∀ t : Nat, (t : Int) < zsz S2 → (zg S3).1 3 t = (zg S2).1 3 t ∧ (zg S3).1 6 t = (zg S2).1 6 t ∧ ∀ u, u < 6 → (zg S3).1 7 (t * 6 + u) = if t * 6 + u = (zsz S).toNat * 6 + i then zsz S2 else (zg S2).1 7 (t * 6 + u) := fun t ht => by
    obtain ⟨x3, x6, x7⟩ := g13 t (by omega) ht
    refine ⟨by rw [x3, hln, if_neg (by omega)], by rw [x6, hln, if_neg (by omega)], fun u hu => ?_⟩
    rw [x7 u hu, hln]
    by_cases c : t * 6 + u = (zsz S).toNat * 6 + i
    · rw [if_pos ⟨rfl, c⟩, if_pos c]
    · rw [if_neg (fun q => c q.2), if_neg c]
  obtain ⟨s3, s6, s7⟩ := hC (zsz S).toNat (by omega)
  obtain ⟨k1, k2, k3, k4, k5⟩ := g12.g hh2
  have hB2 : ∀ t, zsz S < t → t < zsz S2 → (∃ a b : Nat, T * 260 + m ≤ a ∧ b ≤ hi ∧ (hole < a ∨ b ≤ hole) ∧ Body M3 (zg S3) σ3 a b t) ∧ Lnk M3 (zg S3) σ3 t := fun t t1 t2 => by
    obtain ⟨⟨a, b, ha, hb, hh, hBd⟩, hL⟩ := f1 t t1 t2
    have hnb := hBd.2.1
    have hCt : Cl (zg S2) (zg S3) t (t + 1) := fun u u1 u2 => by
      obtain ⟨x3, x6, x7⟩ := hC u (by omega)
      exact ⟨x3, x6, fun v hv => by rw [x7 v hv, if_neg (by omega)]⟩
    refine ⟨⟨a, b, ha, hb, hh, hBd.keep (Kp.nd g5 (by omega)) g12 ?_ fun j hj => g17 j hj.2.1⟩, hL.keep hBd.1 (g5 2236 _ (by omega) (by omega) (by omega)) g12 hCt fun j hj => g17 j hj.2.1⟩
    obtain ⟨x3, x6, x7⟩ := hCt t.toNat (by omega) (by omega)
    exact ⟨x6, x7⟩
  refine ⟨⟨?_, ⟨by omega, by omega, by omega⟩, a5.trans g5 (by omega), a6.trans g6⟩, ⟨g7.trans b1, g8, fun k hk => ?_⟩, ⟨g10, by omega, c3.trans g12, fun t t1 t2 => ?_⟩, ⟨s3.trans d1, ?_, k1.trans d3, k4.trans d4, k5.trans d5, k2.trans d6⟩, fun k hk => ?_, ⟨fun t t1 t2 => ?_, fun t t' t1 t2 t3 t4 et => ?_⟩, fun j hj => (g17 j (by omega)).trans (f3 j hj)⟩
  · have e : (S2.2.1 : Int) = (S.2.1 : Int) + 1 := by omega
    rw [e] at g1; exact g1
  · obtain ⟨x1, x2⟩ := g9 k (by omega)
    exact ⟨x1.trans (b3 k hk).1, x2.trans (b3 k hk).2⟩
  · obtain ⟨x3, x6, x7⟩ := hC t (by omega)
    obtain ⟨y3, y6, y7⟩ := c4 t t1 t2
    exact ⟨x3.trans y3, x6.trans y6, fun u hu => by rw [x7 u hu, if_neg (by omega)]; exact y7 u hu⟩
  · rw [s6, d2]; omega
  · dsimp only
    by_cases c : k = i
    · subst c
      rw [if_pos rfl]
      refine ⟨by rw [s7 k hi6, if_pos rfl], ⟨by omega, g11, by omega⟩, g16.trans ear⟩
    · rw [if_neg c]
      obtain ⟨x1, x2, x3⟩ := e1 k (by omega)
      exact ⟨by rw [s7 k (by omega), if_neg (by omega)]; exact x1, g12.has x2, (g12.g x2).2.2.2.1.trans x3⟩
  · by_cases c : t < zsz S2
    · obtain ⟨⟨a, b, ha, hb, hh, hBd⟩, hL⟩ := hB2 t t1 c
      exact ⟨⟨a, b, ha, by omega, hh, hBd⟩, hL⟩
    · obtain ⟨⟨a, b, ha, hb, hBd⟩, hL⟩ := g14 t (by omega) t2
      exact ⟨⟨a, b, by omega, hb, Or.inl (by omega), hBd⟩, hL⟩
  · by_cases c1' : t < zsz S2
    · by_cases c2' : t' < zsz S2
      · rw [g17 t c1', g17 t' c2'] at et
        exact f2 t t' t1 c1' t3 c2' et
      · obtain ⟨⟨a, b, ha, hb, _, hBd⟩, _⟩ := hB2 t t1 c1'
        obtain ⟨⟨a', b', ha', hb', hBd'⟩, _⟩ := g14 t' (by omega) t4
        have := hBd.2.1; have := hBd'.2.1
        omega
    · by_cases c2' : t' < zsz S2
      · obtain ⟨⟨a, b, ha, hb, _, hBd⟩, _⟩ := hB2 t' t3 c2'
        obtain ⟨⟨a', b', ha', hb', hBd'⟩, _⟩ := g14 t (by omega) t2
        have := hBd.2.1; have := hBd'.2.1
        omega
      · exact g15 t t' (by omega) t2 (by omega) t4 et
/-- nodes were written -/
theorem Inn_node {M M1 M2 : ZMem} {S S1 : St} {kd dt : Int} {m m1 m2 : Nat} {σ0 σ : Int → Int} {i : Nat} {fs : Nat → Int} {hi : Nat} {hole hole' due : Int} (h : Inn K M0 M tp n N T S kd dt m σ0 M1 S1 m1 σ i fs hi hole due) (hn : NM K M0 M2 tp n T S1.1 (-1) ((S.2.1 : Int) + 1) (zsz S1) m2) (hm : m ≤ m2 ∧ (m2 : Int) + S.1 + due ≤ m + S1.1) (hnd : ndB (T * 260 + m) M M2) (hk : ∀ f j : Nat, 2232 ≤ f → f ≤ 2236 → j < hi → (f ≠ 2236 ∨ (j : Int) ≠ hole) → mI M2 f j = mI M1 f j) (hhi : hi ≤ hole') : Inn K M0 M tp n N T S kd dt m σ0 M2 S1 m2 σ i fs hi hole' due := by
  obtain ⟨⟨a1, ⟨a2, a3, a4⟩, a5, a6⟩, b, ⟨c1, c2, c3, c4⟩, d, e1, ⟨f1, f2⟩, f3⟩ := h
  refine ⟨⟨hn, ⟨a2, hm.1, hm.2⟩, hnd, a6⟩, b, ⟨c1, c2, c3, c4⟩, d, e1, ⟨fun t t1 t2 => ?_, f2⟩, f3⟩
  obtain ⟨⟨x, y, hx, hy, hh, hBd⟩, hL⟩ := f1 t t1 t2
  have hnb := hBd.2.1
  have h40 := c3.1.2.2
  have h00 := c3.1.1
  have hr : Gr (zg S1) (zg S1) := Gr.refl (Int.le_trans h00 c3.1.2.1) h40
  refine ⟨⟨x, y, hx, hy, Or.inr (by omega), hBd.keep ⟨fun f j q1 q2 q3 => hk f j q1 (by omega) (by omega) (by omega), fun j q1 q2 q3 => hk 2236 j (by omega) (by omega) (by omega) (by omega)⟩ hr ⟨rfl, fun _ _ => rfl⟩ fun _ _ => rfl⟩, ?_⟩
  exact hL.keep hBd.1 (hk 2236 _ (by omega) (by omega) (by omega) (by omega)) hr Cl.refl fun _ _ => rfl
end INNER
