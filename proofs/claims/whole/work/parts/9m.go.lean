/-! go and all on both sides -/
section GOES
variable {K M : ZMem}
theorem q_run {P : Pg} {σ : Int → Int} {root price : Int} {e : Nat} {till : Bool} (hPR : PR M P σ root price e) (hM : ModelAt K 2230) : ∀ (n : Nat) (S : Sr), RI P σ root price S → runQ P till n S (fun _ S' => 0 ≤ (sQ S').2 ∧ (sQ S').2 ≤ 60)
  | 0, S, hI => hI.sb.1.2.2.2.2.2.2.2.2.2.1
  | n + 1, S, hI => fun j => by
    split
    · rename_i c
      exact q_run hPR hM n _ (hI.mv hPR hM j (by omega)).1
    · obtain ⟨U, D, hDB, h⟩ := hI
      obtain ⟨_, D', ⟨U', m2⟩, _⟩ := mo (s := 0) hPR hM hDB h j
      by_cases c : (mv P S j).1 ≤ 2
      · exact (m2.2.1 c).sb.2.2.2.2.2.2.2.2.2.1
      · exact (m2.2.2 (by omega)).sb.2.2.2.2.2.2.2.2.2.1
theorem run_go {d o s : Nat} {b : Int} {P : Pg} {σ D : Int → Int} {root price : Int} {B : Nat} {S : Sr} {U : Tr} (hM : ModelAt K 2230) (hL : SrK K o) (ho : o + 427 ≤ 2230) (hd : 6 ≤ d) (hX : PX M P σ root price B) (hB : B ≤ 70200) (hDB : DB D) (hR : RS P σ root price D S U (sC S 13) (sT S 2)) (h7 : sC S 7 = 1) (h12 : V12 S) (hb : 1 ≤ b ∧ b ≤ 2000) (h2 : sT S 2 + b ≤ 1100000) (hA : At K M o P S) {Q : Int → ZMem → Prop}
    (q : ∀ x S' M1, Ax K M M1 o P S' → V12 S' → sT S' 2 + sC S' 13 = sT S 2 + b → (x ≤ 2 → sC S' 7 = 1) → (2 < x → sC S' 7 = 2) → (∀ (d' : Nat) (M2 : ZMem) (Q' : Int → ZMem → Prop), 160 ≤ d' → RM K M1 M2 s (cur S) b U → (∀ M3 U' D', RM K M1 M3 s (cur S') (sC S' 13) U' → Re P σ root price D' x S' U' → Q' x M3) → Xi (d' + 1) q10_goes 2 [some (zr 2230), some (zi 0)] [] M2 Q') → Q x M1) : Ci d q6_run [zr o, zi b, zi 1] M Q := by
  have hPR := hX.pr hB
  have hR' := RS_bud hR (by omega) h2
  have hI : RI P σ root price (uC S 13 b) := ⟨U, D, hDB, hR'⟩
  have hmu : muN P (uC S 13 b) < 1000000 := by
    have := mu_le (S := uC S 13 b) hPR.1 hR'.sb.2.2.2.2.2.2.1.2
    have e : sC (uC S 13 b) 13 = b := rfl
    rw [e] at this
    omega
  have r1 := runQ_all (A := ZMem) (p := fun M0 => PX M0 P σ root price B) (q := fun M0 => GQ K M0 P σ root price 151 s (uC S 13 b)) 1000000 (uC S 13 b) fun M0 hX0 => go_run (hX0.pr hB) hM 1000000 _ hI hmu
  have r2 := runQ_vk (S0 := uC S 13 b) 1000000 (uC S 13 b) rfl h7 h12 r1
  refine s_run (till := true) (I := RI P σ root price) hd hL hPR.1 (fun S hS => hS.sb) (fun S j hS hx => (hS.mv hPR hM j hx).1) ⟨hA, Fr.refl⟩ hI (runQ_mono (fun x S' hq M1 a1 => ?_) _ _ r2)
  obtain ⟨z1, z12, z2, z3, z4⟩ := hq
  refine q x S' M1 a1 z12 z2 z3 z4 fun d' M2 Q' hd' hRM fin => ?_
  have hX1 : PX M1 P σ root price B := hX.keep fun f j f1 f2 _ => a1.2.i (by unfold bk; omega) j
  exact z1 M1 hX1 U D hDB hR' d' M2 Q' (by omega) hRM fin
theorem run_all {d o s : Nat} {b : Int} {P : Pg} {σ D : Int → Int} {root price : Int} {B : Nat} {S : Sr} {U : Tr} (hM : ModelAt K 2230) (hL : SrK K o) (ho : o + 427 ≤ 2230) (hd : 6 ≤ d) (hX : PX M P σ root price B) (hB : B ≤ 70200) (hDB : DB D) (hR : RS P σ root price D S U (sC S 13) (sT S 2)) (h7 : sC S 7 = 1) (h12 : V12 S) (hb : 1 ≤ b ∧ b ≤ 2000) (h2 : sT S 2 + b ≤ 1100000) (hA : At K M o P S) {Q : Int → ZMem → Prop}
    (q : ∀ x S' M1, Ax K M M1 o P S' → V12 S' → sT S' 2 + sC S' 13 = sT S 2 + b → (x ≤ 2 → sC S' 7 = 1) → (2 < x → sC S' 7 = 2) → (0 ≤ (sQ S').2 ∧ (sQ S').2 ≤ 60) → (∀ (d' : Nat) (M2 : ZMem) (l2 : Int) (Q' : Int → ZMem → Prop), 160 ≤ d' → 0 ≤ l2 → l2 ≤ 60 → RM K M1 M2 s (cur S) b U → (∀ M3 U' D', RM K M1 M3 s (cur S') (sC S' 13) U' → Re P σ root price D' x S' U' → Q' (U'.1 15 - l2) M3) → Xi (d' + 1) q10_goes 2 [some (zr 2230), some (zi 0)] [] M2 (fun y M5 => KW K M5 ∧ Xi (d' + 1 + 1) q10_goesAll 20 [some (zr 2230), none, some (zi l2), some (zi y)] [] M5 Q')) → Q x M1) : Ci d q6_run [zr o, zi b, zi 0] M Q := by
  have hPR := hX.pr hB
  have hR' := RS_bud hR (by omega) h2
  have hI : RI P σ root price (uC S 13 b) := ⟨U, D, hDB, hR'⟩
  have hmu : muN P (uC S 13 b) < 1000000 := by
    have := mu_le (S := uC S 13 b) hPR.1 hR'.sb.2.2.2.2.2.2.1.2
    have e : sC (uC S 13 b) 13 = b := rfl
    rw [e] at this
    omega
  have r1 := runQ_all (A := ZMem) (p := fun M0 => PX M0 P σ root price B) (q := fun M0 => AQ K M0 P σ root price 151 s (uC S 13 b)) 1000000 (uC S 13 b) fun M0 hX0 => all_run (hX0.pr hB) hM 1000000 _ hI hmu
  have r2 := runQ_and _ _ (runQ_vk (S0 := uC S 13 b) 1000000 (uC S 13 b) rfl h7 h12 r1) (q_run (till := false) hPR hM 1000000 _ hI)
  refine s_run (till := false) (I := RI P σ root price) hd hL hPR.1 (fun S hS => hS.sb) (fun S j hS hx => (hS.mv hPR hM j hx).1) ⟨hA, Fr.refl⟩ hI (runQ_mono (fun x S' hq M1 a1 => ?_) _ _ r2)
  obtain ⟨⟨z1, z12, z2, z3, z4⟩, z6⟩ := hq
  refine q x S' M1 a1 z12 z2 z3 z4 z6 fun d' M2 l2 Q' hd' hl0 hl1 hRM fin => ?_
  have hX1 : PX M1 P σ root price B := hX.keep fun f j f1 f2 _ => a1.2.i (by unfold bk; omega) j
  exact z1 M1 hX1 U D hDB hR' d' M2 l2 Q' hl0 hl1 (by omega) hRM fin
/-- a search after a run -/
theorem LaS_run {M' : ZMem} {P : Pg} {σ D : Int → Int} {root price : Int} {S S' : Sr} {U' : Tr} {T i : Nat} {b x : Int} (hX : PX M' P σ root price (T * 260)) (hb : b ≤ 2000) (h2 : sT S 2 ≤ 2000 * i) (e2 : sT S' 2 + sC S' 13 = sT S 2 + b) (h7 : x ≤ 2 → sC S' 7 = 1) (h7' : 2 < x → sC S' 7 = 2) (h12 : V12 S') (hRe : Re P σ root price D x S' U') (h14 : 0 ≤ U'.1 14 ∧ U'.1 14 ≤ 61) : LaS M' P S' U' T (2000 * (i + 1 : Nat)) := by
  by_cases c : x ≤ 2
  · have r := hRe.2.1 c
    have sb := r.sb
    have b10 : sC S' 10 = 0 ∨ sC S' 10 = 1 := r.1.2.2.2.2.2.2.2.2.2.2.2.1
    exact ⟨⟨⟨sb.1, b10, h12⟩, sb.2.2.2.2.2.2.2.2.1, h14⟩, Or.inr ⟨σ, root, price, D, hX, hRe.1, by have := sb.2.2.2.2.2.2.2.2.1; omega, Or.inl ⟨h7 c, r⟩⟩⟩
  · have r := hRe.2.2 (by omega)
    have sb := r.sb
    have sb13 : 0 ≤ sC S' 13 ∧ sC S' 13 ≤ 2000 := sb.2.2.2.2.2.2.2.2.1
    have b10 : sC S' 10 = 0 ∨ sC S' 10 = 1 := r.1.2.2.2.2.2.2.2.2.2.2.2.1
    exact ⟨⟨⟨sb.1, b10, h12⟩, sb13, h14⟩, Or.inr ⟨σ, root, price, D, hX, hRe.1, by omega, Or.inr ⟨h7' (by omega), r⟩⟩⟩
theorem FrM.fr {M1 M3 : ZMem} {s : Nat} (h : FrM M1 M3 s) : Fr (fun q => q = 2230 ∨ q = 2239 ∨ q = 2240) M1 M3 := h.1
theorem both_go {d i : Nat} {a b : Int} (hTop : TopAt K 2) (hM : ModelAt K 2230) (hSr : ∀ k, k < 4 → SrK K (44 + 444 * k)) (hd : 200 ≤ d) (hi : i < 512) (h : LaR K M i) : Both K d q9_go q10_go [zi a, zi b] i M := by
  obtain ⟨d, rfl⟩ : ∃ e, d = e + 1 := ⟨d - 1, by omega⟩
  have hK := h.1
  by_cases ha : 0 ≤ a ∧ a ≤ 3
  · obtain ⟨k, rfl⟩ : ∃ k : Nat, a = k := ⟨a.toNat, by omega⟩
    have hk : k < 4 := by omega
    obtain ⟨T, hT, ⟨P, S, hAt, hLS⟩, mk, hth, _⟩ := h.srch hi hk
    generalize hU : vT (mI M 2239) (3849 * k) = U at *
    have hSA : SearchAt K (44 + 444 * k) := (hTop.2.2.2.2.2.2.2.2.2.2.2 k hk).2.2.2
    have e7 : mI M (44 + 444 * k) 7 = sC S 7 := hAt.c (by decide) (by decide)
    have u0 : mI M 2239 ((3849 * (k : Int)) + 0).toNat = sC S 7 := by
      rw [← hLS.u0, ← hU, vT_at (by decide), show ((3849 * (k : Int)) + 0).toNat = 3849 * k + 0 by omega]
    have inb : inR (3849 * (k : Int)) ∧ inR ((3849 * (k : Int)) + 0) ∧ (0 ≤ ((3849 * (k : Int)) + 0)) ∧ (((3849 * (k : Int)) + 0) < 19245) := ⟨⟨by omega, by omega⟩, ⟨by omega, by omega⟩, by omega, by omega⟩
    refine B9_go k b hK hTop (c_searchAt hTop hK hk ⟨hK, fun c => absurd c (by omega), fun _ => ⟨fun c => ?_, fun c1 => ⟨fun c2 => ⟨hSA, fun c => ?_, fun c => ?_⟩, fun c2 => ?_⟩⟩⟩)
    · exact ⟨hK, B10_go k b hK hM (n_isSearch (by omega) hK hk ⟨hK, fun q => absurd q (by decide), fun _ => ⟨fun q => absurd q.1 (by omega), fun _ => ⟨hK, rfl, h.up⟩⟩⟩)⟩
    · rw [e7] at c
      exact ⟨hK, B10_go k b hK hM (n_isSearch (by omega) hK hk ⟨hK, fun q => absurd q (by decide), fun _ => ⟨fun q => ⟨inb.1, inb.2.1, inb.2.2.1, inb.2.2.2, fun q2 => absurd (u0.symm.trans q2) c, fun _ => ⟨hK, rfl, h.up⟩⟩, fun q => absurd ⟨by omega, c2⟩ q⟩⟩)⟩
    · have c7 : sC S 7 = 1 := by rw [← e7]; exact Decidable.not_not.mp c
      obtain ⟨σ, root, price, D, hX, hDB, hst, hor⟩ := hLS.2.resolve_left fun q => by omega
      have hRS := (hor.resolve_right fun q => by omega).2
      have h13 : 0 ≤ U.1 13 ∧ U.1 13 ≤ 6 ∧ (U.1 13).toNat = cur S := by
        have hb := hRS.bd
        have := hRS.sb.2.2.2.2.2.2.1
        have e : U.1 13 = (cur S : Int) := hb.2.2.2.2.2.2.2.2.2
        unfold cur at *
        omega
      refine run_go (s := 3849 * k) hM (hSr k hk) (by omega) (by omega) hX (by omega) hDB hRS c7 hLS.1.1.2.2 (by omega) (by omega) hAt fun x S' M1 a1 z12 z2 z3 z4 z5 => ⟨a1.1.1, a1.1.1, ?_⟩
      have r39 : ∀ j, mI M1 2239 j = mI M 2239 j := fun j => a1.2.i (by unfold bk; omega) j
      have hU1 : vT (mI M1 2239) (3849 * k) = U := by rw [← hU, show mI M1 2239 = mI M 2239 from funext r39]
      refine B10_go k b a1.1.1 hM (n_isSearch (by omega) a1.1.1 hk ⟨a1.1.1, fun q => absurd q (by decide), fun _ => ⟨fun _ => ⟨inb.1, inb.2.1, inb.2.2.1, inb.2.2.2, fun _ => ?_, fun q2 => absurd ((r39 _).trans (u0.trans c7)) q2⟩, fun q => absurd ⟨by omega, c2⟩ q⟩⟩)
      refine n_choosesSearch (k := k) hM a1.1.1 (by omega) (by omega) hU1 hLS.1.2.2 (by omega) fun M2 rm _ => ⟨rm.1, ?_⟩
      obtain ⟨d, rfl⟩ : ∃ e, d = e + 1 := ⟨d - 1, by omega⟩
      have rm2 : RM K M1 (sI M2 2230 18 b) (3849 * k) (cur S) b U := by
        obtain ⟨m1, m2, m3, m4, m5, m6, m7, m8, m9⟩ := rm
        rw [h13.2.2] at m3 m8
        refine ⟨m1.sI _ _ _, ?_, ?_, mI_sI_eq, ?_, m6, m7, m8, m9.1.sI (Or.inl rfl), fun j hj => ?_, fun j hj => ?_⟩
        · rw [mI_sI, if_neg (by omega)]; exact m2
        · rw [mI_sI, if_neg (by omega)]; exact m3
        · rw [show mI (sI M2 2230 18 b) 2239 = mI M2 2239 from funext fun j => by rw [mI_sI, if_neg (by omega)]]; exact m5
        · rw [mI_sI, if_neg (by omega)]; exact m9.2.1 j hj
        · rw [mI_sI, if_neg (by omega)]; exact m9.2.2 j hj
      refine B10_goes rm2.1 hM (z5 d _ _ (by omega) rm2 fun M3 U' D' rm3 re => ⟨rm3.1, rm3.1, rfl, ?_⟩)
      obtain ⟨m1, m2, m3, m4, m5, m6, m7, m8, m9⟩ := rm3
      have F : Fr (fun q => bk (44 + 444 * k) 427 q ∨ bk 1803 427 q ∨ q = 2230 ∨ q = 2239 ∨ q = 2240) M M3 := (a1.2.wide fun q hq => Or.inl hq).trans (m9.1.wide fun q hq => Or.inr (Or.inr hq))
      have hX3 : PX M3 P σ root price (T * 260) := hX.keep fun f j f1 f2 _ => F.i (by unfold bk; omega) j
      obtain ⟨P', S0, t1, t2⟩ := hth
      refine mk M3 m1 F (fun j hj => (m9.2.2 j hj).trans (a1.2.i (by unfold bk; omega) j)) (fun j hj _ => (m9.2.1 j hj).trans (r39 j)) ⟨P, S', a1.1.frame m1 m9.1 fun j hj q => by omega, ?_⟩ ⟨P', S0, t1.frame m1 ((a1.2.wide fun q hq => Or.inl hq).trans (m9.1.wide fun q hq => Or.inr hq) : Fr (fun q => bk (44 + 444 * k) 427 q ∨ (q = 2230 ∨ q = 2239 ∨ q = 2240)) M M3) fun j hj q => by unfold bk at q; omega, t2⟩
      rw [m5]
      exact LaS_run hX3 (by omega) hst z2 z3 z4 z12 re m6
    · exact ⟨hK, B10_go k b hK hM (n_isSearch (by omega) hK hk ⟨hK, fun q => absurd q (by decide), fun _ => ⟨fun q => absurd q.2 c2, fun _ => ⟨hK, rfl, h.up⟩⟩⟩)⟩
  · exact B9_go a b hK hTop (c_searchAt_no hTop hK ha ⟨hK, fun _ => ⟨hK, B10_go a b hK hM (n_isSearch_no (by omega) hK ha ⟨hK, fun _ => ⟨hK, rfl, h.up⟩, fun c => absurd rfl c⟩)⟩, fun c => absurd rfl c⟩)
end GOES
