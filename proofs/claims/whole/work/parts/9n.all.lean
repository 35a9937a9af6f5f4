/-! all on both sides -/
section ALLS
variable {K M : ZMem}
theorem At.an2 {o : Nat} {P : Pg} {S : Sr} (h : At K M o P S) : mI M (o + 18) 1 = (sQ S).2 := by rw [← h.ans]; rfl
theorem Re.q15 {P : Pg} {σ D : Int → Int} {root price x : Int} {S : Sr} {U : Tr} (h : Re P σ root price D x S U) : U.1 15 = (sQ S).2 ∧ 0 ≤ (sQ S).2 ∧ (sQ S).2 ≤ 60 := by
  by_cases c : x ≤ 2
  · have r := h.2.1 c
    exact ⟨r.2.1.2.2.2.2.2.2.2.2.2.2.2.2.1, r.sb.2.2.2.2.2.2.2.2.2.1⟩
  · have r := h.2.2 (by omega)
    exact ⟨r.2.1.2.2.2.2.2.2.2.2.2.2.2.2.1, r.sb.2.2.2.2.2.2.2.2.2.1⟩
theorem RM_bud {M1 M2 : ZMem} {s lv : Nat} {b0 b : Int} {U : Tr} (h : RM K M1 M2 s lv b0 U) : RM K M1 (sI M2 2230 18 b) s lv b U := by
  obtain ⟨m1, m2, m3, m4, m5, m6, m7, m8, m9⟩ := h
  refine ⟨m1.sI _ _ _, ?_, ?_, mI_sI_eq, ?_, m6, m7, m8, m9.1.sI (Or.inl rfl), fun j hj => ?_, fun j hj => ?_⟩
  · rw [mI_sI, if_neg (by omega)]; exact m2
  · rw [mI_sI, if_neg (by omega)]; exact m3
  · rw [show mI (sI M2 2230 18 b) 2239 = mI M2 2239 from funext fun j => by rw [mI_sI, if_neg (by omega)]]; exact m5
  · rw [mI_sI, if_neg (by omega)]; exact m9.2.1 j hj
  · rw [mI_sI, if_neg (by omega)]; exact m9.2.2 j hj
/-- the reference's goesAll from a chosen search -/
theorem r_goesAll {d s lv : Nat} {b b0 : Int} {M1 M2 : ZMem} {U : Tr} (hM : ModelAt K 2230) (hd : 163 ≤ d) (h : RM K M1 M2 s lv b0 U) (h15 : 0 ≤ U.1 15 ∧ U.1 15 ≤ 60) {Q : Int → ZMem → Prop} {Z : ZMem → Tr → Prop} (z : ∀ (d' : Nat) (M2 : ZMem) (l2 : Int) (Q' : Int → ZMem → Prop), 160 ≤ d' → 0 ≤ l2 → l2 ≤ 60 → RM K M1 M2 s lv b U → (∀ M3 U', Z M3 U' → Q' (U'.1 15 - l2) M3) → Xi (d' + 1) q10_goes 2 [some (zr 2230), some (zi 0)] [] M2 (fun y M5 => KW K M5 ∧ Xi (d' + 1 + 1) q10_goesAll 20 [some (zr 2230), none, some (zi l2), some (zi y)] [] M5 Q')) (q : ∀ M3 U', Z M3 U' → Q (U'.1 15 - U.1 15) M3) : Ci d q10_goesAll [zr 2230, zi b] M2 Q := by
  obtain ⟨d, rfl⟩ : ∃ e, d = e + 1 + 1 := ⟨d - 2, by omega⟩
  have r2 := h.2.1
  have hs := h.2.2.2.2.2.2.1
  have e15 : mI M2 2239 ((mI M2 2230 16) + 15).toNat = U.1 15 := by
    rw [r2, ← h.2.2.2.2.1, vT_at (by decide), show ((s : Int) + 15).toNat = s + 15 by omega]
  refine B10_goesAll b h.1 hM ⟨by rw [r2]; exact ⟨by omega, by omega⟩, by omega, by omega, ?_⟩
  rw [e15]
  have h' := RM_bud (b := b) h
  exact B10_goesAll_20 (U.1 15) 1 h'.1 hM ⟨fun c => absurd rfl c, fun _ => B10_goes h'.1 hM (z d _ _ _ (by omega) h15.1 h15.2 h' q)⟩
theorem both_all {d i : Nat} {a b : Int} (hTop : TopAt K 2) (hM : ModelAt K 2230) (hSr : ∀ k, k < 4 → SrK K (44 + 444 * k)) (hd : 200 ≤ d) (hi : i < 512) (h : LaR K M i) : Both K d q9_all q10_all [zi a, zi b] i M := by
  obtain ⟨d, rfl⟩ : ∃ e, d = e + 1 := ⟨d - 1, by omega⟩
  have hK := h.1
  by_cases ha : 0 ≤ a ∧ a ≤ 3
  · obtain ⟨k, rfl⟩ : ∃ k : Nat, a = k := ⟨a.toNat, by omega⟩
    have hk : k < 4 := by omega
    obtain ⟨T, hT, ⟨P, S, hAt, hLS⟩, mk, hth, _⟩ := h.srch hi hk
    generalize hU : vT (mI M 2239) (3849 * k) = U at *
    have hSA : SearchAt K (44 + 444 * k) := (hTop.2.2.2.2.2.2.2.2.2.2.2 k hk).2.2.2
    have e7 : mI M (44 + 444 * k) 7 = sC S 7 := hAt.c (by decide) (by decide)
    have u0 : mI M 2239 ((3849 * (k : Int)) + 0).toNat = sC S 7 := by
      rw [← hLS.u0, ← hU, vT_at (by decide), show ((3849 * (k : Int)) + 0).toNat = 3849 * k + 0 by omega]
    have inb : inR (3849 * (k : Int)) ∧ inR ((3849 * (k : Int)) + 0) ∧ (0 ≤ ((3849 * (k : Int)) + 0)) ∧ (((3849 * (k : Int)) + 0) < 19245) := ⟨⟨by omega, by omega⟩, ⟨by omega, by omega⟩, by omega, by omega⟩
    refine B9_all k b hK hTop (c_searchAt hTop hK hk ⟨hK, fun c => absurd c (by omega), fun _ => ⟨fun c => ?_, fun c1 => ⟨fun c2 => ⟨hSA, fun c => ?_, fun c => ?_⟩, fun c2 => ?_⟩⟩⟩)
    · exact ⟨hK, B10_all k b hK hM (n_isSearch (by omega) hK hk ⟨hK, fun q => absurd q (by decide), fun _ => ⟨fun q => absurd q.1 (by omega), fun _ => ⟨hK, rfl, h.up⟩⟩⟩)⟩
    · have c7 : sC S 7 = 1 := by rw [← e7]; exact c
      obtain ⟨σ, root, price, D, hX, hDB, hst, hor⟩ := hLS.2.resolve_left fun q => by omega
      have hRS := (hor.resolve_right fun q => by omega).2
      have hb := hRS.bd
      have h13 : 0 ≤ U.1 13 ∧ U.1 13 ≤ 6 ∧ (U.1 13).toNat = cur S := by
        have := hRS.sb.2.2.2.2.2.2.1
        have e : U.1 13 = (cur S : Int) := hb.2.2.2.2.2.2.2.2.2
        unfold cur at *
        omega
      have h15 := hb.2.2.2.2.2.2.2.2.1
      have e15 : U.1 15 = (sQ S).2 := hRS.2.1.2.2.2.2.2.2.2.2.2.2.2.2.1
      refine run_all (s := 3849 * k) hM (hSr k hk) (by omega) (by omega) hX (by omega) hDB hRS c7 hLS.1.1.2.2 (by omega) (by omega) hAt fun x S' M1 a1 z12 z2 z3 z4 hq1 z5 => ⟨a1.1.1, ?_⟩
      have r39 : ∀ j, mI M1 2239 j = mI M 2239 j := fun j => a1.2.i (by unfold bk; omega) j
      have hU1 : vT (mI M1 2239) (3849 * k) = U := by rw [← hU, show mI M1 2239 = mI M 2239 from funext r39]
      have ea := a1.1.an2
      have eb := hAt.an2
      have hq0 : 0 ≤ (sQ S).2 ∧ (sQ S).2 ≤ 60 := by omega
      rw [ea, eb]
      refine ⟨⟨by omega, by omega⟩, a1.1.1, ?_⟩
      refine B10_all k b a1.1.1 hM (n_isSearch (by omega) a1.1.1 hk ⟨a1.1.1, fun q => absurd q (by decide), fun _ => ⟨fun _ => ⟨inb.1, inb.2.1, inb.2.2.1, inb.2.2.2, fun _ => ?_, fun q2 => absurd ((r39 _).trans (u0.trans c7)) q2⟩, fun q => absurd ⟨by omega, c2⟩ q⟩⟩)
      refine n_choosesSearch (k := k) hM a1.1.1 (by omega) (by omega) hU1 hLS.1.2.2 (by omega) fun M2 rm _ => ⟨rm.1, ?_⟩
      rw [h13.2.2] at rm
      refine r_goesAll (Z := fun M3 U' => ∃ D', RM K M1 M3 (3849 * k) (cur S') (sC S' 13) U' ∧ Re P σ root price D' x S' U') hM (by omega) rm h15 (fun d' M2 l2 Q' hd' hl0 hl1 hRM fin => z5 d' M2 l2 Q' hd' hl0 hl1 hRM fun M3 U' D' r1 r2 => fin M3 U' ⟨D', r1, r2⟩) fun M3 U' ⟨D', rm3, re⟩ => ⟨rm3.1, rm3.1, by rw [re.q15.1, e15], ?_⟩
      obtain ⟨m1, m2, m3, m4, m5, m6, m7, m8, m9⟩ := rm3
      have F : Fr (fun q => bk (44 + 444 * k) 427 q ∨ bk 1803 427 q ∨ q = 2230 ∨ q = 2239 ∨ q = 2240) M M3 := (a1.2.wide fun q hq => Or.inl hq).trans (m9.1.wide fun q hq => Or.inr (Or.inr hq))
      have hX3 : PX M3 P σ root price (T * 260) := hX.keep fun f j f1 f2 _ => F.i (by unfold bk; omega) j
      obtain ⟨P', S0, t1, t2⟩ := hth
      refine mk M3 m1 F (fun j hj => (m9.2.2 j hj).trans (a1.2.i (by unfold bk; omega) j)) (fun j hj _ => (m9.2.1 j hj).trans (r39 j)) ⟨P, S', a1.1.frame m1 m9.1 fun j hj q => by omega, ?_⟩ ⟨P', S0, t1.frame m1 ((a1.2.wide fun q hq => Or.inl hq).trans (m9.1.wide fun q hq => Or.inr hq) : Fr (fun q => bk (44 + 444 * k) 427 q ∨ (q = 2230 ∨ q = 2239 ∨ q = 2240)) M M3) fun j hj q => by unfold bk at q; omega, t2⟩
      rw [m5]
      exact LaS_run hX3 (by omega) hst z2 z3 z4 z12 re m6
    · rw [e7] at c
      exact ⟨hK, B10_all k b hK hM (n_isSearch (by omega) hK hk ⟨hK, fun q => absurd q (by decide), fun _ => ⟨fun q => ⟨inb.1, inb.2.1, inb.2.2.1, inb.2.2.2, fun q2 => absurd (u0.symm.trans q2) c, fun _ => ⟨hK, rfl, h.up⟩⟩, fun q => absurd ⟨by omega, c2⟩ q⟩⟩)⟩
    · exact ⟨hK, B10_all k b hK hM (n_isSearch (by omega) hK hk ⟨hK, fun q => absurd q (by decide), fun _ => ⟨fun q => absurd q.2 c2, fun _ => ⟨hK, rfl, h.up⟩⟩⟩)⟩
  · exact B9_all a b hK hTop (c_searchAt_no hTop hK ha ⟨hK, fun _ => ⟨hK, B10_all a b hK hM (n_isSearch_no (by omega) hK ha ⟨hK, fun _ => ⟨hK, rfl, h.up⟩, fun c => absurd rfl c⟩)⟩, fun c => absurd rfl c⟩)
end ALLS
