/-! feed, program, cost on both sides -/
section FEED
variable {K M : ZMem}
/-- one call on both sides -/
def Both (K : ZMem) (d : Nat) (c r : ZMeth) (args : List ZV) (i : Nat) (M : ZMem) : Prop := Ci d c (zr 2 :: args) M (fun x M1 => KW K M1 ∧ Ci d r (zr 2230 :: args) M1 (fun y M2 => KW K M2 ∧ x = y ∧ LaR K M2 (i + 1)))
theorem LaR.up {i : Nat} (h : LaR K M i) : LaR K M (i + 1) := by
  obtain ⟨hK, tp, n, T, h1, h2, h3, h4, ⟨h5, h6⟩, h7, h8, h9⟩ := h
  refine ⟨hK, tp, n, T, h1, h2, h3, h4, ⟨h5, by omega⟩, h7, fun k hk => ?_, h9⟩
  obtain ⟨P, S, a, b⟩ := h8 k hk
  exact ⟨P, S, a, b.keep ndB.refl (Nat.le_refl _) (by omega)⟩
theorem both_feed {d i : Nat} {a : Int} (hTop : TopAt K 2) (hM : ModelAt K 2230) (hd : 5 ≤ d) (hi : i < 512) (h : LaR K M i) : Both K d q9_feed q10_feed [zi a] i M := by
  obtain ⟨d, rfl⟩ : ∃ e, d = e + 1 := ⟨d - 1, by omega⟩
  have h0 := h
  obtain ⟨hK, tp, n, T, h1, ⟨h2, h2'⟩, ⟨h3, h3'⟩, h4, ⟨h5, h6⟩, h7, h8, h9⟩ := h
  have hn150 := h1.1
  have hTA : TapeAt K 3 := hTop.2.2.2.2.2.2.1
  refine B9_feed a hK hTop ⟨fun c => ⟨hK, B10_feed a hK hM ⟨fun c2 => absurd c2.1 (by omega), fun _ => ⟨hK, rfl, h0.up⟩⟩⟩, fun c => ⟨fun c2 => ?_, fun c2 => ⟨hK, B10_feed a hK hM ⟨fun c3 => absurd c3.2 c2, fun _ => ⟨hK, rfl, h0.up⟩⟩⟩⟩⟩
  by_cases c3 : n = 150
  · refine B7_add 3 a hK hTA ⟨fun c4 => absurd c4 (by omega), fun _ => ⟨fun c4 => absurd c4 (by omega), fun _ => ⟨hK, fun _ => ⟨hK, B10_feed a hK hM ⟨fun _ => ⟨fun c4 => absurd (show mI M 2230 1 = 150 by omega) c4, fun _ => ⟨hK, rfl, h0.up⟩⟩, fun c4 => absurd ⟨by omega, c2⟩ c4⟩⟩, fun c4 => absurd rfl c4⟩⟩⟩
  · have e3 : mI M 3 1 = (n : Int) := h2
    refine B7_add 3 a hK hTA ⟨fun c4 => absurd c4 (by omega), fun _ => ⟨fun _ => ?_, fun c4 => absurd (by omega) c4⟩⟩
    have e4 : mI (sI M 4 (mI M 3 1).toNat a) 3 1 = (n : Int) := by rw [mI_sI, if_neg (by omega)]; exact h2
    rw [show 3 + 1 = 4 from rfl, e4, e3, Int.toNat_natCast]
    refine ⟨by omega, by omega, ⟨by omega, by omega⟩, (hK.sI _ _ _).sI _ _ _, fun c4 => absurd c4 (by decide), fun _ => ⟨(hK.sI _ _ _).sI _ _ _, ?_⟩⟩
    have eA : mI (sI (sI M 4 n a) 3 1 ((n : Int) + 1)) 3 1 = (n : Int) + 1 := mI_sI_eq
    rw [eA]
    have F1 : Fr (fun q => q = 3 ∨ q = 4) M (sI (sI M 4 n a) 3 1 ((n : Int) + 1)) := (Fr.refl.sI (Or.inr rfl)).sI (Or.inl rfl)
    have g1 : ∀ j, mI (sI (sI M 4 n a) 3 1 ((n : Int) + 1)) 4 j = if j = n then a else mI M 4 j := fun j => by
      rw [mI_sI, if_neg (by omega), mI_sI]
      by_cases c : j = n
      · rw [if_pos ⟨rfl, c⟩, if_pos c]
      · rw [if_neg (fun q => c q.2), if_neg c]
    have k1 : KW K (sI (sI M 4 n a) 3 1 ((n : Int) + 1)) := (hK.sI _ _ _).sI _ _ _
    generalize sI (sI M 4 n a) 3 1 ((n : Int) + 1) = M1 at *
    have r3 : mI M1 2230 1 = (n : Int) := (F1.i (by decide) 1).trans h3
    refine B10_feed a k1 hM ⟨fun _ => ⟨fun _ => ?_, fun c4 => absurd (show mI M1 2230 1 ≠ 150 by omega) c4⟩, fun c4 => absurd ⟨by omega, c2⟩ c4⟩
    have e4' : mI (sI M1 2231 (mI M1 2230 1).toNat a) 2230 1 = (n : Int) := by rw [mI_sI, if_neg (by omega)]; exact r3
    rw [e4', r3, Int.toNat_natCast]
    have eB : mI (sI (sI M1 2231 n a) 2230 1 ((n : Int) + 1)) 2230 1 = (n : Int) + 1 := mI_sI_eq
    rw [eB]
    refine ⟨by omega, by omega, ⟨by omega, by omega⟩, (k1.sI _ _ _).sI _ _ _, rfl, ?_⟩
    have F2 : Fr (fun q => q = 2230 ∨ q = 2231) M1 (sI (sI M1 2231 n a) 2230 1 ((n : Int) + 1)) := (Fr.refl.sI (Or.inr rfl)).sI (Or.inl rfl)
    have g2 : ∀ j, mI (sI (sI M1 2231 n a) 2230 1 ((n : Int) + 1)) 2231 j = if j = n then a else mI M1 2231 j := fun j => by
      rw [mI_sI, if_neg (by omega), mI_sI]
      by_cases c : j = n
      · rw [if_pos ⟨rfl, c⟩, if_pos c]
      · rw [if_neg (fun q => c q.2), if_neg c]
    have g6 : mI (sI (sI M1 2231 n a) 2230 1 ((n : Int) + 1)) 2230 6 = T := by
      rw [mI_sI, if_neg (by omega), mI_sI, if_neg (by omega), F1.i (by decide) 6]; exact h5
    have k2 : KW K (sI (sI M1 2231 n a) 2230 1 ((n : Int) + 1)) := (k1.sI _ _ _).sI _ _ _
    generalize sI (sI M1 2231 n a) 2230 1 ((n : Int) + 1) = M2 at *
    have F : Fr (fun q => q = 3 ∨ q = 4 ∨ q = 2230 ∨ q = 2231) M M2 := (F1.wide fun q hq => by omega).trans (F2.wide fun q hq => by omega)
    obtain ⟨l1, l2⟩ := LaR_mk (T := T) (T' := T) k2 F (fun q q1 q2 q3 => by omega) (by decide) (fun f j f1 f2 _ => F.i (by omega) j) (Nat.le_refl _) h8 h9
    refine ⟨k2, fun j => if j = n then a else tp j, n + 1, T, ⟨by omega, fun j hj => ?_, fun j hj => ?_⟩, ⟨?_, fun j hj => ?_⟩, ⟨by omega, fun j hj => ?_⟩, ?_, ⟨g6, by omega⟩, fun k hk => (h7 k hk).keep F (fun j hj => by omega) (F.i (by decide) k) (F.i (by decide) k) (fun f j f1 f2 _ => F.i (by omega) j) (Nat.le_refl _), l1, l2⟩
    · dsimp only
      split
      · omega
      · exact h1.2.1 j (by omega)
    · dsimp only
      rw [if_neg (by omega)]
      exact h1.2.2 j (by omega)
    · rw [F2.i (by decide) 1, eA]; omega
    · dsimp only
      rw [F2.i (by decide) j, g1]
      split
      · rfl
      · exact h2' j (by omega)
    · dsimp only
      rw [g2, F1.i (by decide) j]
      split
      · rfl
      · exact h3' j (by omega)
    · rw [gG_fr F fun j hj q => by omega]; exact h4
end FEED
