/-! the class's calls, as the law has them -/
section CALLS
variable {K M : ZMem} {d k : Nat} {P : Pg} {S : Sr} {Q : Int → ZMem → Prop}
def SrA (K M : ZMem) (k : Nat) (P : Pg) (S : Sr) : Prop := At K M (44 + 444 * k) P S
theorem c_feed (hTop : TopAt K 2) (hK : KW K M) (hd : 1 ≤ d) {n : Nat} {a : Int} (hn : mI M 3 1 = n) (h150 : n < 150) (ha : 1 ≤ a ∧ a ≤ 255) (q : ∀ M', KW K M' → Fr (fun q => q = 3 ∨ q = 4) M M' → mI M' 3 1 = ((n + 1 : Nat) : Int) → (∀ j, mI M' 4 j = if j = n then a else mI M 4 j) → Q ((n + 1 : Nat) : Int) M') : Ci d q9_feed [zr 2, zi a] M Q := by
  obtain ⟨d, rfl⟩ : ∃ e, d = e + 1 := ⟨d - 1, by omega⟩
  have hTA : TapeAt K 3 := hTop.2.2.2.2.2.2.1
  refine B9_feed a hK hTop ⟨fun c => absurd c (by omega), fun _ => ⟨fun _ => ?_, fun c => absurd ha.2 c⟩⟩
  refine B7_add 3 a hK hTA ⟨fun c4 => absurd c4 (by omega), fun _ => ⟨fun _ => ?_, fun c4 => absurd (by omega) c4⟩⟩
  have e4 : mI (sI M 4 (mI M 3 1).toNat a) 3 1 = (n : Int) := by rw [mI_sI, if_neg (by omega)]; exact hn
  rw [show 3 + 1 = 4 from rfl, e4, hn, Int.toNat_natCast]
  refine ⟨by omega, by omega, ⟨by omega, by omega⟩, (hK.sI _ _ _).sI _ _ _, fun c4 => absurd c4 (by decide), fun _ => ?_⟩
  have eA : mI (sI (sI M 4 n a) 3 1 ((n : Int) + 1)) 3 1 = ((n + 1 : Nat) : Int) := mI_sI_eq
  rw [eA]
  refine q _ ((hK.sI _ _ _).sI _ _ _) ((Fr.refl.sI (Or.inr rfl)).sI (Or.inl rfl)) eA fun j => ?_
  rw [mI_sI, if_neg (by omega), mI_sI]
  by_cases c : j = n
  · rw [if_pos ⟨rfl, c⟩, if_pos c]
  · rw [if_neg (fun q => c q.2), if_neg c]
theorem c_begin (hTop : TopAt K 2) (hSr : ∀ k, k < 4 → SrK K (44 + 444 * k)) (hd : 4 ≤ d) (hk : k < 4) (h : SrA K M k P S) {st : Int} (hst : 0 ≤ st ∧ st ≤ 5) (h10 : mI M 27 10 ≠ 0) (q : ∀ M', SrA K M' k (gG M 27) (xStart S st) → Fr (bk (44 + 444 * k) 427) M M' → Q 1 M') : Ci d q9_begin [zr 2, zi k, zi 0, zi st] M Q := by
  obtain ⟨d, rfl⟩ : ∃ e, d = e + 1 := ⟨d - 1, by omega⟩
  have hK := h.1
  have hSk : SearchAt K (44 + 444 * k) := (hTop.2.2.2.2.2.2.2.2.2.2.2 k hk).2.2.2
  have hPp : ProgramAt K (27 + 444 * 0) := (hTop.2.2.2.2.2.2.2.2.2.2.2 0 (by decide)).2.1
  refine B9_begin k 0 st hK hTop (c_searchAt hTop hK hk ⟨hK, fun q => absurd q (by omega), fun _ => ⟨fun q => absurd q (by omega), fun q1 => ⟨fun q2 => ?_, fun q => absurd hst.2 q⟩⟩⟩)
  refine c_programAt (k := 0) hTop hK (by decide) ⟨hK, fun q => absurd q (by omega), fun _ => ⟨hPp, fun q3 => ⟨hSk, ?_⟩, fun q3 => absurd h10 q3⟩⟩
  refine s_sstart (g := 27) (by omega) (by omega) (hSr k hk) hPp h fun M1 a1 => ⟨a1.1.1, ?_⟩
  exact q M1 a1.1 a1.2
theorem c_go {c : Nm} {st : Int} {b : Int} (hP : PF c P) (hB : NmB c) (hTop : TopAt K 2) (hSr : ∀ k, k < 4 → SrK K (44 + 444 * k)) (hd : 7 ≤ d) (hk : k < 4) (h : SrA K M k P S) (hI : Iv c st S) (hb : 1 ≤ b ∧ b ≤ 500) (q : ∀ x S' M', SrA K M' k P S' → Fr (bk (44 + 444 * k) 427) M M' → GoR c st (uC S 13 b) x S' → Q x M') : Ci d q9_go [zr 2, zi k, zi b] M Q := by
  obtain ⟨d, rfl⟩ : ∃ e, d = e + 1 := ⟨d - 1, by omega⟩
  have hK := h.1
  have hSk : SearchAt K (44 + 444 * k) := (hTop.2.2.2.2.2.2.2.2.2.2.2 k hk).2.2.2
  have e7 : mI M (44 + 444 * k) 7 = 1 := (At.c h (by decide) (by decide)).trans hI.1.2.1.2.2.1
  obtain ⟨i1, i2⟩ := hI.bud (b := b) (by omega)
  have hc := hI.c1000
  refine B9_go k b hK hTop (c_searchAt hTop hK hk ⟨hK, fun c => absurd c (by omega), fun _ => ⟨fun c => absurd c (by omega), fun c1 => ⟨fun c2 => ⟨hSk, fun q => absurd e7 q, fun _ => ?_⟩, fun c2 => absurd hb.2 c2⟩⟩⟩)
  refine s_run (till := true) (I := Iv c st) (by omega) (hSr k hk) hP.1 (fun S hS => hS.sb hP hB) (fun S j hS hx => iv_keep hP hB S j hS hx) ⟨h, Fr.refl⟩ i1 (runQ_mono (fun x S' hq M1 a1 => ⟨a1.1.1, q x S' M1 a1.1 a1.2 hq⟩) _ _ (go_run hP hB 1000000 _ i1 (by omega)))
theorem c_go_no {b : Int} (hTop : TopAt K 2) (hd : 1 ≤ d) (hk : k < 4) (h : SrA K M k P S) (h7 : sC S 7 ≠ 1) (hb : 1 ≤ b ∧ b ≤ 500) (q : Q (-2003) M) : Ci d q9_go [zr 2, zi k, zi b] M Q := by
  obtain ⟨d, rfl⟩ : ∃ e, d = e + 1 := ⟨d - 1, by omega⟩
  have hK := h.1
  have hSk : SearchAt K (44 + 444 * k) := (hTop.2.2.2.2.2.2.2.2.2.2.2 k hk).2.2.2
  have e7 : mI M (44 + 444 * k) 7 = sC S 7 := At.c h (by decide) (by decide)
  exact B9_go k b hK hTop (c_searchAt hTop hK hk ⟨hK, fun c => absurd c (by omega), fun _ => ⟨fun c => absurd c (by omega), fun c1 => ⟨fun c2 => ⟨hSk, fun c => q, fun c => absurd (by rw [e7]; exact h7) c⟩, fun c2 => absurd hb.2 c2⟩⟩⟩)
theorem c_all {c : Nm} {st : Int} (hP : PF c P) (hB : NmB c) (hTop : TopAt K 2) (hSr : ∀ k, k < 4 → SrK K (44 + 444 * k)) (hd : 7 ≤ d) (hk : k < 4) (h : SrA K M k P S) (hI : Iv c st S) (q : ∀ S' M', SrA K M' k P S' → Fr (bk (44 + 444 * k) 427) M M' → AllR c st (uC S 13 2000) 3 S' → Q ((sQ S').2 - (sQ S).2) M') : Ci d q9_all [zr 2, zi k, zi 2000] M Q := by
  obtain ⟨d, rfl⟩ : ∃ e, d = e + 1 := ⟨d - 1, by omega⟩
  have hK := h.1
  have hSk : SearchAt K (44 + 444 * k) := (hTop.2.2.2.2.2.2.2.2.2.2.2 k hk).2.2.2
  have e7 : mI M (44 + 444 * k) 7 = 1 := (At.c h (by decide) (by decide)).trans hI.1.2.1.2.2.1
  obtain ⟨i1, i2⟩ := hI.bud (b := 2000) (by omega)
  have hc := hI.c1000
  have an2 : ∀ {M P S}, SrA K M k P S → mI M (44 + 444 * k + 18) 1 = (sQ S).2 := fun h => by rw [← At.ans h]; rfl
  have n0 := hI.2.1.n54 hB
  refine B9_all k 2000 hK hTop (c_searchAt hTop hK hk ⟨hK, fun c => absurd c (by omega), fun _ => ⟨fun c => absurd c (by decide), fun c1 => ⟨fun c2 => ⟨hSk, fun _ => ?_, fun q => absurd e7 q⟩, fun c2 => absurd (by decide) c2⟩⟩⟩)
  refine s_run (till := false) (I := Iv c st) (by omega) (hSr k hk) hP.1 (fun S hS => hS.sb hP hB) (fun S j hS hx => iv_keep hP hB S j hS hx) ⟨h, Fr.refl⟩ i1 (runQ_mono (fun x S' hq M1 a1 => ?_) _ _ (all_run hP hB 1000000 _ i1 (by omega) (by rw [i2]; show _ ≤ (2000 : Int); omega)))
  have e1 := an2 a1.1
  have e0 := an2 h
  obtain ⟨x1, x2, S1, x3, x4, x5⟩ := hq
  have n1 := x4.2.1.n54 hB
  have e3 : (sQ S').2 = (sQ S1).2 := by rw [x3]; rfl
  rw [e1, e0]
  refine ⟨a1.1.1, ?_, q S' M1 a1.1 a1.2 ⟨rfl, x2, S1, x3, x4, x5⟩⟩
  have m1 : (sQ S1).2 ≤ 54 := by have := n1.2; split at this <;> omega
  have m0 : (sQ S).2 ≤ 54 := by have := n0.2; split at this <;> omega
  exact ⟨by omega, by omega⟩
theorem c_of0 (hTop : TopAt K 2) (hd : 1 ≤ d) (hk : k < 4) (h : SrA K M k P S) (q : Q (sC S 7) M) : Ci d q9_of [zr 2, zi k, zi 0] M Q := by
  obtain ⟨d, rfl⟩ : ∃ e, d = e + 1 := ⟨d - 1, by omega⟩
  have hK := h.1
  have hSk : SearchAt K (44 + 444 * k) := (hTop.2.2.2.2.2.2.2.2.2.2.2 k hk).2.2.2
  have e7 : mI M (44 + 444 * k) 7 = sC S 7 := At.c h (by decide) (by decide)
  refine B9_of k 0 hK hTop (c_searchAt hTop hK hk ⟨hK, fun c => absurd c (by omega), fun _ => ⟨fun c => absurd c (by decide), fun c1 => ⟨fun c2 => ⟨fun c => absurd rfl c, fun _ => ⟨hSk, ?_⟩⟩, fun c => absurd (by decide) c⟩⟩⟩)
  rw [e7]
  exact q
theorem c_of {a : Int} (hTop : TopAt K 2) (hSr : ∀ k, k < 4 → SrK K (44 + 444 * k)) (hd : 1 ≤ d) (hk : k < 4) (h : SrA K M k P S) (h7 : sC S 7 ≠ 0) (ha : 1 ≤ a ∧ a ≤ 9) (q : Q (xTell S a) M) : Ci d q9_of [zr 2, zi k, zi a] M Q := by
  obtain ⟨d, rfl⟩ : ∃ e, d = e + 1 := ⟨d - 1, by omega⟩
  have hK := h.1
  have hSk : SearchAt K (44 + 444 * k) := (hTop.2.2.2.2.2.2.2.2.2.2.2 k hk).2.2.2
  have e7 : mI M (44 + 444 * k) 7 = sC S 7 := At.c h (by decide) (by decide)
  refine B9_of k a hK hTop (c_searchAt hTop hK hk ⟨hK, fun c => absurd c (by omega), fun _ => ⟨fun c => absurd c (by omega), fun c1 => ⟨fun c2 => ⟨fun c => ⟨hSk, fun _ => ?_, fun c => absurd (by rw [e7]; exact h7) c⟩, fun c => absurd (by omega) c⟩, fun c => absurd ha.2 c⟩⟩⟩)
  exact (s_tell (M0 := M) ⟨h, Fr.refl⟩ (hSr k hk)).pure ⟨hK, q⟩
theorem c_next (hTop : TopAt K 2) (hSr : ∀ k, k < 4 → SrK K (44 + 444 * k)) (hd : 2 ≤ d) (hk : k < 4) (h : SrA K M k P S) (h7 : sC S 7 ≠ 0) (h12 : sC S 12 ≠ 0) (q : Q (-2002) M) : Ci d q9_next [zr 2, zi k] M Q := by
  obtain ⟨d, rfl⟩ : ∃ e, d = e + 1 := ⟨d - 1, by omega⟩
  have hK := h.1
  have hSk : SearchAt K (44 + 444 * k) := (hTop.2.2.2.2.2.2.2.2.2.2.2 k hk).2.2.2
  have e7 : mI M (44 + 444 * k) 7 = sC S 7 := At.c h (by decide) (by decide)
  refine B9_next k hK hTop (c_searchAt hTop hK hk ⟨hK, fun c => ⟨hSk, fun _ => ?_, fun c => absurd (by rw [e7]; exact h7) c⟩, fun c => absurd (by omega) c⟩)
  refine (s_mayTake h (hSr k hk)).pure ⟨hK, fun _ => q, fun c => absurd (if_neg fun q => h12 q.2.2.1) c⟩
theorem c_answer {i v : Int} (hTop : TopAt K 2) (hSr : ∀ k, k < 4 → SrK K (44 + 444 * k)) (hd : 1 ≤ d) (hk : k < 4) (h : SrA K M k P S) (h7 : sC S 7 ≠ 0) (hi : 0 ≤ i ∧ i ≤ 1000) (hv : 0 ≤ v ∧ v < 12) (q1 : i < (sQ S).2 → Q (aField (sQ S) i v) M) (q0 : ¬ i < (sQ S).2 → Q (-2002) M) : Ci d q9_answer [zr 2, zi k, zi i, zi v] M Q := by
  obtain ⟨d, rfl⟩ : ∃ e, d = e + 1 := ⟨d - 1, by omega⟩
  have hK := h.1
  have hSk : SearchAt K (44 + 444 * k) := (hTop.2.2.2.2.2.2.2.2.2.2.2 k hk).2.2.2
  have e7 : mI M (44 + 444 * k) 7 = sC S 7 := At.c h (by decide) (by decide)
  have en : mI M (44 + 444 * k + 18) 1 = (sQ S).2 := by rw [← At.ans h]; rfl
  refine B9_answer k i v hK hTop (c_searchAt hTop hK hk ⟨hK, fun c => absurd c (by omega), fun _ => ⟨fun c => absurd c (by omega), fun c1 => ⟨fun c => absurd c (by omega), fun _ => ⟨fun _ => ⟨hSk, fun _ => ⟨fun c => q0 (by omega), fun c => ?_⟩, fun c => absurd (by rw [e7]; exact h7) c⟩, fun c => absurd hv.2 c⟩⟩⟩⟩)
  refine (s_field hK (hSr k hk).ans (by omega) (by omega)).pure ⟨hK, ?_⟩
  rw [At.ans h]
  exact q1 (by omega)
theorem c_ordered {i : Int} (hTop : TopAt K 2) (hSr : ∀ k, k < 4 → SrK K (44 + 444 * k)) (hd : 3 ≤ d) (hk : k < 4) (h : SrA K M k P S) (h7 : sC S 7 ≠ 0) (hn : 0 ≤ (sQ S).2 ∧ (sQ S).2 ≤ 60) (hi : 0 ≤ i ∧ i < (sQ S).2) (q1 : Q (aRanked (sQ S) i (sQ S).2.toNat 0) M) : Ci d q9_ordered [zr 2, zi k, zi i] M Q := by
  obtain ⟨d, rfl⟩ : ∃ e, d = e + 1 := ⟨d - 1, by omega⟩
  have hK := h.1
  have hSk : SearchAt K (44 + 444 * k) := (hTop.2.2.2.2.2.2.2.2.2.2.2 k hk).2.2.2
  have e7 : mI M (44 + 444 * k) 7 = sC S 7 := At.c h (by decide) (by decide)
  have en : mI M (44 + 444 * k + 18) 1 = (sQ S).2 := by rw [← At.ans h]; rfl
  refine B9_ordered k i hK hTop (c_searchAt hTop hK hk ⟨hK, fun c => absurd c (by omega), fun _ => ⟨fun _ => ⟨hSk, fun _ => ⟨fun c => absurd c (by omega), fun c => ?_⟩, fun c => absurd (by rw [e7]; exact h7) c⟩, fun c => absurd hi.1 c⟩⟩)
  refine (s_ranked (by omega) hK (hSr k hk).ans (by rw [At.ans h]; exact hn)).pure ⟨hK, ?_⟩
  rw [At.ans h]
  exact q1
theorem c_common {k2 : Nat} {P2 : Pg} {S2 : Sr} (hTop : TopAt K 2) (hSr : ∀ k, k < 4 → SrK K (44 + 444 * k)) (hd : 4 ≤ d) (hk : k < 4) (hk2 : k2 < 4) (h : SrA K M k P S) (h2 : SrA K M k2 P2 S2) (h7 : sC S 7 ≠ 0) (h72 : sC S2 7 ≠ 0) (hn : 0 ≤ (sQ S).2 ∧ (sQ S).2 ≤ 60) (hn2 : 0 ≤ (sQ S2).2 ∧ (sQ S2).2 ≤ 60) (q1 : Q (aShared (sQ S) (sQ S2) (sQ S).2.toNat) M) : Ci d q9_common [zr 2, zi k, zi k2] M Q := by
  obtain ⟨d, rfl⟩ : ∃ e, d = e + 1 := ⟨d - 1, by omega⟩
  have hK := h.1
  have hSk : SearchAt K (44 + 444 * k) := (hTop.2.2.2.2.2.2.2.2.2.2.2 k hk).2.2.2
  have hSk2 : SearchAt K (44 + 444 * k2) := (hTop.2.2.2.2.2.2.2.2.2.2.2 k2 hk2).2.2.2
  have e7 : mI M (44 + 444 * k) 7 = sC S 7 := At.c h (by decide) (by decide)
  have e72 : mI M (44 + 444 * k2) 7 = sC S2 7 := At.c h2 (by decide) (by decide)
  refine B9_common k k2 hK hTop (c_searchAt hTop hK hk ⟨hK, c_searchAt hTop hK hk2 ⟨hK, fun c => absurd c (by omega), fun _ => ⟨fun _ => ⟨hSk, fun c => absurd (e7.symm.trans c) h7, fun _ => ⟨hSk2, fun _ => ?_, fun c => absurd (by rw [e72]; exact h72) c⟩⟩, fun c => absurd (by omega) c⟩⟩⟩)
  refine (s_shared (by omega) hK (hSr k hk).ans (hSr k2 hk2).ans (by rw [At.ans h]; exact hn) (by rw [At.ans h2]; exact hn2)).pure ⟨hK, ?_⟩
  rw [At.ans h, At.ans h2]
  exact q1
theorem c_unlike (hTop : TopAt K 2) (hSr : ∀ k, k < 4 → SrK K (44 + 444 * k)) (hd : 4 ≤ d) (hk : k < 4) (h : SrA K M k P S) (h7 : sC S 7 ≠ 0) (hn : 0 ≤ (sQ S).2 ∧ (sQ S).2 ≤ 60) (q1 : Q (aDiff (sQ S) (sQ S).2.toNat) M) : Ci d q9_unlike [zr 2, zi k] M Q := by
  obtain ⟨d, rfl⟩ : ∃ e, d = e + 1 := ⟨d - 1, by omega⟩
  have hK := h.1
  have hSk : SearchAt K (44 + 444 * k) := (hTop.2.2.2.2.2.2.2.2.2.2.2 k hk).2.2.2
  have e7 : mI M (44 + 444 * k) 7 = sC S 7 := At.c h (by decide) (by decide)
  refine B9_unlike k hK hTop (c_searchAt hTop hK hk ⟨hK, fun _ => ⟨hSk, fun _ => ?_, fun c => absurd (by rw [e7]; exact h7) c⟩, fun c => absurd (by omega) c⟩)
  refine (s_diff (by omega) hK (hSr k hk).ans (by rw [At.ans h]; exact hn)).pure ⟨hK, ?_⟩
  rw [At.ans h]
  exact q1
end CALLS
