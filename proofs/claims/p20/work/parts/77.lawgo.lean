/-! the law goes on with a search, to its end -/
def Dn (c : Nm) (st : Int) (S : Sr) : Prop := ∃ S1, S = uC S1 7 2 ∧ Iv c st S1 ∧ Fin3 c st S1
abbrev LD (c : Nm) (n w st k : Int) (t : List (Option ZV)) : List (Option ZV) := some (zr 1) :: some (zr 2) :: none :: some (zi (nmP c)) :: some (zi (nmQ c)) :: none :: none :: none :: none :: some (zr 2231) :: some (zr 2232) :: some (zr 2233) :: some (zi n) :: some (zi w) :: some (zi st) :: some (zi k) :: t
section LAWGO
variable {q : Nat × (Nat → Int)} {d : Nat} {K M0 : ZMem} {c : Nm} {P : Pg} {n0 k : Nat} {st N w : Int}
theorem Dn.c7 {S : Sr} (h : Dn c st S) : sC S 7 = 2 := by obtain ⟨S1, e, -⟩ := h; rw [e]; rfl
theorem Dn.n {S : Sr} (h : Dn c st S) : (sQ S).2 = ((AL c).length : Int) := by
  obtain ⟨S1, e, h1, -, h3, -⟩ := h
  have e1 := h3.1.length_eq
  rw [aL_len] at e1
  have e2 : sQ S = sQ S1 := by rw [e]; rfl
  rw [e2]
  have := h1.2.1.1.1
  omega
theorem tell2 {S : Sr} : xTell S 2 = sT S 2 := rfl
theorem tell1 {S : Sr} : xTell S 1 = (sQ S).2 := rfl
theorem law_done (hL : LK K n0) (hn0 : 2233 ≤ n0) (hq : ∀ j, inR (q.2 j)) (hq1 : q.1 ≤ 260) (hd : 7 ≤ d) (hk : k < 4) (hN : N = ((AL c).length : Int)) {M : ZMem} {S : Sr} {stp came : Int} (h : SrA K M k P S) (hI : Dn c st S) (hca : came = (sQ S).2) (kont : XL q (d + 1) 935 (LD c N w st k [some (zi N), some (zi stp), none, none, none, none, none, none]) [] M) : XL q (d + 1) 890 (LD c N w st k [some (zi came), some (zi stp), none, none, none, none, none, none]) [] M := by
  have hT := hL.1
  have hSr := hL.sr
  have hK := h.1
  have c7 := hI.c7
  have hn := hI.n
  have h9 := hL.2.2.2.2.2.1 (by omega)
  have h10 := hL.2.2.2.2.2.2.1 (by omega)
  have h11 := hL.2.2.2.2.2.2.2 (by omega)
  refine BL_890 _ _ _ _ _ _ _ _ hq hq1 hK hT h9 h10 h11 (c_of0 hT (by omega) hk h ⟨hK, fun e => ?_, fun _ => c_of hT hSr (by omega) hk h (by omega) (by decide) ⟨hK, fun e => ?_, fun _ => ⟨fun e => ?_, fun _ => c_go_no hT (by omega) hk h (by omega) (by decide) ⟨hK, fun _ => ?_, fun e => ?_⟩⟩⟩⟩)
  · omega
  · rw [tell1] at e; omega
  · omega
  · rw [show came = N by omega]
    exact kont
  · exact absurd rfl e
theorem law_go (hL : LK K n0) (hn0 : 2233 ≤ n0) (hq : ∀ j, inR (q.2 j)) (hq1 : q.1 ≤ 260) (hB : NmB c) (hP : PF c P) (hd : 7 ≤ d) (hk : k < 4) (hN : N = ((AL c).length : Int)) (kont : ∀ M' S' stp', SrA K M' k P S' → Dn c st S' → stp' ≤ sT S' 2 → Fr (bk (44 + 444 * k) 427) M0 M' → XL q (d + 1) 935 (LD c N w st k [some (zi N), some (zi stp'), none, none, none, none, none, none]) [] M') : ∀ (r n : Nat) (M : ZMem) (S : Sr) (stp : Int), n + r = 60 → SrA K M k P S → (Iv c st S ∨ Dn c st S) → stp ≤ sT S 2 → Fr (bk (44 + 444 * k) 427) M0 M → XL q (d + 1) 730 (LD c N w st k [some (zi (sQ S).2), some (zi stp), some (zi n), none, none, none, none, none]) [] M := by
  have hT := hL.1
  have hSr := hL.sr
  have h9 := hL.2.2.2.2.2.1 (by omega)
  have h10 := hL.2.2.2.2.2.2.1 (by omega)
  have h11 := hL.2.2.2.2.2.2.2 (by omega)
  have i7 : ∀ S, Iv c st S → sC S 7 = 1 := fun S h => h.1.2.1.2.2.1
  -- what comes behind the loop
  have fin : ∀ (M : ZMem) (S : Sr) (stp : Int), SrA K M k P S → (Iv c st S ∨ Dn c st S) → stp ≤ sT S 2 → Fr (bk (44 + 444 * k) 427) M0 M → XL q (d + 1) 865 (LD c N w st k [some (zi (sQ S).2), some (zi stp), none, none, none, none, none, none]) [] M := fun M S stp h hI hs F => by
    have hK := h.1
    rcases hI with hI | hI
    · have c7 := i7 S hI
      refine BL_865 _ _ _ _ _ _ _ _ hq hq1 hK hT h9 h10 h11 (c_of0 hT (by omega) hk h ⟨hK, fun e => absurd c7 e, fun _ => c_all hP hB hT hSr (by omega) hk h hI fun S' M' h' F' hR => ⟨h'.1, ?_, ?_⟩⟩)
      · obtain ⟨x1, x2, S1, x3, x4, x5⟩ := hR
        have n0 := hI.2.1.n54 hB
        have n1 := x4.2.1.n54 hB
        have e3 : (sQ S').2 = (sQ S1).2 := by rw [x3]; rfl
        have m1 : (sQ S1).2 ≤ 54 := by have := n1.2; split at this <;> omega
        rw [show (sQ S).2 + ((sQ S').2 - (sQ S).2) = (sQ S').2 by omega, e3]
        exact ⟨by omega, by omega⟩
      · obtain ⟨x1, x2, x3⟩ := hR
        have x2 : sT S 2 ≤ sT S' 2 := x2
        exact law_done hL hn0 hq hq1 hd hk hN h' x3 (by omega) (kont M' S' stp h' x3 (by omega) (F.trans F'))
    · have c7 := hI.c7
      refine BL_865 _ _ _ _ _ _ _ _ hq hq1 hK hT h9 h10 h11 (c_of0 hT (by omega) hk h ⟨hK, fun _ => ?_, fun e => absurd (by omega) e⟩)
      exact law_done hL hn0 hq hq1 hd hk hN h hI rfl (kont M S stp h hI hs F)
  intro r
  induction r with
  | zero =>
    intro n M S stp e h hI hs F
    exact BL_730 _ _ _ _ _ _ _ _ _ hq hq1 h.1 hT h9 h10 h11 ⟨fun _ => fin M S stp h hI hs F, fun c2 => absurd (by omega) c2⟩
  | succ r ih =>
    intro n M S stp e h hI hs F
    have hK := h.1
    refine BL_730 _ _ _ _ _ _ _ _ _ hq hq1 hK hT h9 h10 h11 ⟨fun c2 => absurd c2 (by omega), fun _ => c_of0 hT (by omega) hk h ⟨hK, fun _ => fin M S stp h hI hs F, fun e7 => ?_⟩⟩
    have hI := hI.resolve_right fun hD => by have := hD.c7; omega
    have c7 := i7 S hI
    have hz := zShr_nn (x := scell q (1 + (n : Int))) (y := 1) (by decide)
    have hz2 := Int.emod_nonneg (zShr (scell q (1 + (n : Int))) 1) (show (90 : Int) ≠ 0 by decide)
    have hz3 := Int.emod_lt_of_pos (zShr (scell q (1 + (n : Int))) 1) (show (0 : Int) < 90 by decide)
    refine BL_748 _ _ _ _ _ _ _ _ hq hq1 hK hT h9 h10 h11 ⟨⟨by omega, by omega⟩, ⟨by omega, by omega⟩, hz, ⟨by omega, by omega⟩, ?_⟩
    generalize hb : 1 + zShr (scell q (1 + (n : Int))) 1 % 90 = b
    have hb1 : 1 ≤ b ∧ b ≤ 90 := by omega
    refine BL_765 _ _ _ _ _ _ _ _ _ hq hq1 hK hT h9 h10 h11 (c_of hT hSr (by omega) hk h (by omega) (by decide) ⟨hK, ?_⟩)
    rw [tell2]
    refine BL_774 _ _ _ _ _ _ _ _ _ _ hq hq1 hK hT h9 h10 h11 (c_go hP hB hT hSr (by omega) hk h hI (by omega) fun x S' M' h' F' hR => ⟨h'.1, ?_⟩)
    obtain ⟨⟨g1, g2⟩, g3⟩ := hR
    have g1 : sT S' 2 + sC S' 13 = sT S 2 + b := g1
    have g2 : sT S 2 ≤ sT S' 2 := g2
    have i0 := hI.2.2.2.2.1.1
    have i1 := hI.2.2.2.1.1
    have hst' : (Iv c st S' ∨ Dn c st S') ∧ 0 ≤ sC S' 13 ∧ (sC S' 7 = 1 ∨ sC S' 7 = 2) := by
      rcases g3 with ⟨x1, x2, x3⟩ | ⟨x1, x2, x3, x4⟩ | ⟨x1, S1, x2, x3, x4, x5⟩
      · exact ⟨Or.inl x2, x2.1.2.2.1.1, Or.inl (i7 _ x2)⟩
      · exact ⟨Or.inl x2, x2.1.2.2.1.1, Or.inl (i7 _ x2)⟩
      · refine ⟨Or.inr ⟨S1, x2, x3, x4⟩, ?_, Or.inr (by rw [x2]; rfl)⟩
        have : sC S' 13 = sC S1 13 := by rw [x2]; rfl
        rw [this]
        exact x3.1.2.2.1.1
    obtain ⟨hI', hb', h7'⟩ := hst'
    have nx : XL q (d + 1) 834 (LD c N w st k [some (zi (sQ S).2), none, some (zi n), none, none, some (zi x), none, none]) [] M' := by
      have nx2 : XL q (d + 1) 850 (LD c N w st k [some (zi (sQ S').2), none, some (zi n), none, none, none, none, none]) [] M' := by
        refine BL_850 _ _ _ _ _ _ _ _ hq hq1 h'.1 hT h9 h10 h11 (c_of hT hSr (by omega) hk h' (by omega) (by decide) ⟨h'.1, ⟨by omega, by omega⟩, ?_⟩)
        rw [tell2]
        exact ih (n + 1) M' S' (sT S' 2) (by omega) h' hI' (Int.le_refl _) (F.trans F')
      have hn0 := hI.2.1.n54 hB
      have m0 : 0 ≤ (sQ S).2 ∧ (sQ S).2 ≤ 54 := by have := hn0.2; refine ⟨hn0.1, ?_⟩; split at this <;> omega
      refine BL_834 _ _ _ _ _ _ _ _ _ hq hq1 h'.1 hT h9 h10 h11 ⟨fun e1 => ⟨⟨by omega, by omega⟩, ?_⟩, fun e1 => ⟨⟨by omega, by omega⟩, ?_⟩⟩
      · have e2 : (sQ S').2 = (sQ S).2 + 0 := by
          rcases g3 with ⟨x1, x2, x3⟩ | ⟨x1, x2, x3, x4⟩ | ⟨x1, S1, x2, x3, x4, x5⟩
          · exact absurd x1 e1
          · rw [x3]; show (sQ S).2 = _; omega
          · have : (sQ S').2 = (sQ S1).2 := by rw [x2]; rfl
            rw [this, x5]; show (sQ S).2 = _; omega
        rw [← e2]
        exact nx2
      · have e2 : (sQ S').2 = (sQ S).2 + 1 := by
          rcases g3 with ⟨x1, x2, x3⟩ | ⟨x1, x2, x3, x4⟩ | ⟨x1, S1, x2, x3, x4, x5⟩
          · exact x3
          · omega
          · omega
        rw [← e2]
        exact nx2
    refine BL_784 _ _ _ _ _ _ _ _ _ _ _ hq hq1 h'.1 hT h9 h10 h11 ⟨fun e1 => ?_, fun _ => ⟨fun e1 => ?_, fun _ => c_of hT hSr (by omega) hk h' (by omega) (by decide) ⟨h'.1, ⟨?_, ?_⟩, fun e1 => ?_, fun _ => ⟨fun _ => nx, fun e1 => c_of hT hSr (by omega) hk h' (by omega) (by decide) ⟨h'.1, ⟨?_, ?_⟩, fun _ => nx, fun e2 => ?_⟩⟩⟩⟩⟩
    · rcases g3 with ⟨x1, -⟩ | ⟨x1, -⟩ | ⟨x1, -⟩ <;> omega
    · rcases g3 with ⟨x1, -⟩ | ⟨x1, -⟩ | ⟨x1, -⟩ <;> omega
    · rw [tell2]; omega
    · rw [tell2]; omega
    · rw [tell2] at e1; omega
    · rw [tell2]; omega
    · rw [tell2]; omega
    · rw [tell2] at e2
      rcases g3 with ⟨x1, -⟩ | ⟨x1, x2, x3, x4⟩ | ⟨x1, -⟩
      · omega
      · exact e2 (by omega)
      · omega
end LAWGO
