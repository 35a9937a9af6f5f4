/-! choose: the list, the point, what becomes of it -/
theorem gL_push {M : ZMem} {p : Nat} (hp : PsOK M p) (hn : mI M p 1 < 31) : gL (sI M p 1 (mI M p 1 + 1)) p = gL M p ++ [gP M (mR M (p + 1) (mI M p 1).toNat)] := by
  have p1 := hp.1
  apply List.ext_getElem?
  intro i
  have hg : ∀ j, j < 31 → gP (sI M p 1 (mI M p 1 + 1)) (mR M (p + 1) j) = gP M (mR M (p + 1) j) := fun j hj => by
    have hr := hp.row hj
    exact gP_fr (X := bk p 1) (Fr.refl.sI ⟨by omega, by omega⟩) fun l hl q => by unfold bk at q; omega
  rw [List.getElem?_append, gL_len]
  by_cases h1 : i < (mI M p 1).toNat
  · rw [if_pos h1, gL_get (by rw [mI_sI_eq]; omega), mR_sI, hg i (by omega), gL_get h1]
  · rw [if_neg h1]
    by_cases h2 : i = (mI M p 1).toNat
    · subst h2
      rw [gL_get (by rw [mI_sI_eq]; omega), mR_sI, hg _ (by omega), Nat.sub_self]
      rfl
    · rw [List.getElem?_eq_none (by rw [gL_len, mI_sI_eq]; omega), List.getElem?_eq_none (by simp; omega)]
theorem uL_congr {b : Bool} {S : Sr} {l : List Pt} (h : l = sL b S) : uL b S l = S := by rw [h, uL_sL]
section CHOOSE2
variable {d : Nat} {K M0 M M' : ZMem} {o : Nat} {P : Pg} {S : Sr}
theorem Ax.spare (h : Ax K M0 M o P S) (b : Bool) (hK : KW K M') (hlen : (sL b S).length < 31) (F : Fr (bk (mR M (pO o b + 1) (sL b S).length) 6) M M') : Ax K M0 M' o P S := by
  have hps := h.1.ps b
  have hln := h.1.len b
  have hrow := hps.row hlen
  have e1 : mI M' (pO o b) 1 = mI M (pO o b) 1 := F.i (fun q => by unfold bk at q; omega) 1
  have a := h.kL b hK (F.wide fun q hq => by unfold bk at *; omega) (hps.fr F fun j hj q => by unfold bk at q; omega) (l := sL b S) ?_
  · rwa [uL_sL] at a
  · rw [← h.1.lst b]
    refine gL_ext (by rw [e1]) fun i hi => ?_
    have hs := hps.sep (i := i) (j := (sL b S).length) (by omega) hlen (by omega)
    have hr2 := hps.row (i := i) (by omega)
    rw [F.r (fun q => by unfold bk at q; omega), gP_fr F fun j hj q => by unfold bk at q; omega]
theorem s_among_loop {first ch : Int} {X : Nat} {j : Pt} {Q : Int → ZMem → Prop} {R : Int × (Nat → Int)} (hL : SrK K o) (hP : PB P) (hS : SB P S) (hX : PointAt K X) (hA : ∀ M', KW K M' → Fr (bk X 6) M M' → Ax K M0 M' o P S) (hf : -200 ≤ first ∧ first ≤ 200)
    (q : ∀ M' a, KW K M' → Fr (bk X 6) M M' → gP M' X = (j.1, a, j.2.2) → a = R.2 → Q R.1 M') : ∀ (m i : Nat) (M1 : ZMem) (a : Nat → Int), i + m = 6 → KW K M1 → Fr (bk X 6) M M1 → gP M1 X = (j.1, a, j.2.2) → amN P.2.1 (S.1 (cur S)).2.1 first ch m i a = R → Xi (d + 2) q6_prepareAmong 28 [some (zr o), some (zr X), some (zr (o + 397 + 4 * cur S)), none, some (zi first), some (zi ch), some (zi i), none] [] M1 Q
  | 0, i, M1, a, e, hK, hF, hg, hR => by
    obtain rfl : i = 6 := by omega
    rw [amN] at hR
    subst hR
    have hc : cur S < 7 := by have := hS.2.2.2.2.2.2.1; unfold cur; omega
    refine B6_prepareAmong_28 o X _ first ch (6 : Nat) hK hL.1 hX (hL.way hc).2 ⟨fun _ => q M1 a hK hF hg rfl, fun _ => ⟨fun _ => q M1 a hK hF hg rfl, fun c => absurd (by decide) c⟩⟩
  | m + 1, i, M1, a, e, hK, hF, hg, hR => by
    have hc : cur S < 7 := by have := hS.2.2.2.2.2.2.1; unfold cur; omega
    have ih := s_among_loop (first := first) (ch := ch) (j := j) (R := R) (Q := Q) hL hP hS hX hA hf q m (i + 1)
    rw [amN] at hR
    refine B6_prepareAmong_28 o X _ first ch i hK hL.1 hX (hL.way hc).2 ⟨fun c => ?_, fun c => ⟨fun c2 => absurd c2 (by omega), fun c2 => ⟨⟨by omega, by omega⟩, ?_⟩⟩⟩
    · rw [if_pos c] at hR
      subst hR
      exact q M1 a hK hF hg rfl
    · rw [if_neg c] at hR
      refine (s_wworth (by omega) (hA M1 hK hF) hL hP hS hc).pure ⟨hK, fun c3 => ⟨by omega, by omega, ⟨by omega, by omega⟩, ?_⟩, fun c3 => ?_⟩
      · rw [if_neg c3] at hR
        rw [Int.toNat_natCast]
        refine ih _ _ (by omega) (hK.sI _ _ _) (hF.sI ⟨by omega, by omega⟩) ?_ hR
        rw [gP_a (by omega), hg]
      · rw [if_pos (Decidable.not_not.mp c3)] at hR
        subst hR
        exact q M1 a hK hF hg rfl
theorem s_prepareAmong {s : Int} {X : Nat} {Q : Int → ZMem → Prop} (hd : 2 ≤ d) (h : Ax K M0 M o P S) (hL : SrK K o) (hP : PB P) (hS : SB P S) (hX : PointAt K X) (hA : ∀ M', KW K M' → Fr (bk X 6) M M' → Ax K M0 M' o P S) (hs : inR (s + 1)) (hk3 : gKind P s ≠ 3) (hk5 : gKind P s ≠ 5)
    (q : ∀ M', KW K M' → Fr (bk X 6) M M' → gP M' X = (cPrep P (S.1 (cur S)).2.1 s (gP M X)).2 → Q (cPrep P (S.1 (cur S)).2.1 s (gP M X)).1 M') : Ci d q6_prepareAmong [zr o, zr X, zr (o + 397 + 4 * cur S), zi s] M Q := by
  obtain ⟨d, rfl⟩ : ∃ e, d = e + 2 := ⟨d - 2, by omega⟩
  have hc : cur S < 7 := by have := hS.2.2.2.2.2.2.1; unfold cur; omega
  have hf := hP.form s
  have hf1 := hP.form (s + 1)
  unfold cPrep at q
  rw [if_neg hk5, if_neg hk3] at q
  refine B6_prepareAmong o X _ s h.1.1 hL.1 hX (hL.way hc).2 ((s_formulaOf (by omega) h.1.1 hL.prog).pure ⟨h.1.1, hs, (s_formulaOf (by omega) h.1.1 hL.prog).pure ⟨h.1.1, ?_⟩⟩)
  rw [h.g]
  refine ⟨⟨by omega, by omega⟩, s_among_loop (j := gP M X) hL hP hS hX hA ⟨by omega, by omega⟩ (R := amN P.2.1 (S.1 (cur S)).2.1 (gForm P s) (gForm P (s + 1) - gForm P s) 6 0 (gP M X).2.1) (fun M1 a k1 f1 g1 e => q M1 k1 f1 (by rw [g1, e])) 6 0 M (gP M X).2.1 rfl h.1.1 Fr.refl rfl rfl⟩
theorem cPrep_range {s : Int} {v : Nat → Int} {j : Pt} (hP : PB P) : (cPrep P v s j).1 = gParts P s ∨ -3000 ≤ (cPrep P v s j).1 ∧ (cPrep P v s j).1 ≤ 3000 := by
  have hf := hP.form s
  have hf1 := hP.form (s + 1)
  have r1 := fW_range (F := P.2.1) (x := gForm P s) (v := v)
  have r2 := fW_range (F := P.2.1) (x := gForm P s + 1) (v := v)
  have am : ∀ (m i : Nat) (a : Nat → Int), -3000 ≤ (amN P.2.1 v (gForm P s) (gForm P (s + 1) - gForm P s) m i a).1 ∧ (amN P.2.1 v (gForm P s) (gForm P (s + 1) - gForm P s) m i a).1 ≤ 3000 := by
    intro m
    induction m with
    | zero => intro i a; rw [amN]; omega
    | succ m ih =>
      intro i a
      rw [amN]
      split
      · omega
      · split
        · omega
        · exact ih _ _
  unfold cPrep
  split
  · exact Or.inl rfl
  · refine Or.inr ?_
    split
    · split
      · omega
      · show -3000 ≤ fWorth P.2.1 (gForm P s + 1) v - fWorth P.2.1 (gForm P s) v + 1 ∧ _ ≤ _
        omega
    · exact am 6 0 _
theorem s_keep {c : Int × Pt} {X : Nat} {b : Bool} {Q : Int → ZMem → Prop} (hd : 3 ≤ d) (h : Ax K M0 M o P S) (hL : SrK K o) (hP : PB P) (hS : SB P S) (hb : b = nB S) (hX : X = mR M (pO o b + 1) (sL b S).length) (hg : gP M X = (c.2.1, c.2.2.1, fup c.2.2.2 3 c.1))
    (q : ∀ M', Ax K M0 M' o P (xKeep P S c).2 → Q (xKeep P S c).1 M') : Xi d q6_choose 146 [some (zr o), some (zr (o + 397 + 4 * cur S)), none, some (zr (pO o b)), some (zr X), none] [] M Q := by
  obtain ⟨d, rfl⟩ : ∃ e, d = e + 1 := ⟨d - 1, by omega⟩
  obtain ⟨hS1, hS2, hS3, hS4, hS5, hS6, hS7, hS8, hS9, hS10, hS11⟩ := hS
  have hS : SB P S := ⟨hS1, hS2, hS3, hS4, hS5, hS6, hS7, hS8, hS9, hS10, hS11⟩
  have hc : cur S < 7 := by unfold cur; omega
  have hlen : (sL b S).length ≤ 30 := by cases b <;> assumption
  have hps := h.1.ps b
  have hln := h.1.len b
  have hO := pO_le (o := o) (b := b)
  have hrow := hps.row (i := (sL b S).length) (by omega)
  have hat := hps.at (hL.ps b) (i := (sL b S).length) (by omega)
  rw [← hX] at hrow hat
  unfold xKeep at q
  rw [← hb] at q
  refine B6_choose_146 o _ (pO o b) X h.1.1 hL.1 (hL.way hc).2 ⟨(hL.ps b).1, fun c1 => ⟨hat, ?_⟩, fun c1 => ?_⟩
  · rw [if_pos (by omega)] at q
    have F1 : Fr (bk X 6) M (sI M X 4 0) := Fr.refl.sI ⟨by omega, by omega⟩
    refine (s_wbecome (by omega) (h.1.1.sI _ _ _) hat.2.2.2.2 (hL.way hc).2).mono fun M4 ⟨k4, f4, g4⟩ => ⟨k4, ?_⟩
    have ewv : gW (sI M X 4 0) (o + 397 + 4 * cur S) = S.1 (cur S) := by
      rw [gW_fr F1 fun j hj q => by unfold bk at q; omega]
      exact h.1.way hc
    rw [ewv] at g4
    have F4 : Fr (bk X 6) M M4 := F1.trans (f4.wide fun q hq => by unfold bk at *; omega)
    have a4 : Ax K M0 M4 o P S := h.spare b k4 (by omega) (by rw [← hX]; exact F4)
    refine (s_wprice (by omega) a4 hL hP hS hc).pure ⟨k4, ?_⟩
    have F5 : Fr (bk X 6) M (sI M4 X 5 (gPrice P (S.1 (cur S)).2.1)) := F4.sI ⟨by omega, by omega⟩
    have a5 : Ax K M0 (sI M4 X 5 (gPrice P (S.1 (cur S)).2.1)) o P S := h.spare b (k4.sI _ _ _) (by omega) (by rw [← hX]; exact F5)
    have hg5 : gP (sI M4 X 5 (gPrice P (S.1 (cur S)).2.1)) X = cNew P (S.1 (cur S)) c := by
      rw [gP_f (by omega) (by omega), gP_w f4 (fun q => by unfold bk at q; omega) (fun q => by unfold bk at q; omega), g4, gP_f (by omega) (by omega), hg]
      rfl
    have hr5 : mR (sI M4 X 5 (gPrice P (S.1 (cur S)).2.1)) (pO o b + 1) (sL b S).length = X := by
      rw [F5.r (fun q => by unfold bk at q; omega), hX]
    generalize (sI M4 X 5 (gPrice P (S.1 (cur S)).2.1)) = M5 at *
    have hps5 := a5.1.ps b
    have hln5 := a5.1.len b
    have a6 : Ax K M0 (sI M5 (pO o b) 1 (mI M5 (pO o b) 1 + 1)) o P (uL b S (sL b S ++ [cNew P (S.1 (cur S)) c])) := by
      refine a5.kL b (a5.1.1.sI _ _ _) (Fr.refl.sI ⟨by omega, by omega⟩) (hps5.size (by omega) (by omega)) ?_
      rw [gL_push hps5 (by omega), a5.1.lst b, show (mI M5 (pO o b) 1).toNat = (sL b S).length by omega, hr5, hg5]
    refine ⟨⟨by omega, by omega⟩, ?_⟩
    have e11 : mI (sI M5 (pO o b) 1 (mI M5 (pO o b) 1 + 1)) o 11 = sC S 11 := by
      have : sC (uL b S (sL b S ++ [cNew P (S.1 (cur S)) c])) 11 = sC S 11 := by cases b <;> rfl
      rw [← this]
      exact a6.1.c (by omega) (by omega)
    rw [e11]
    generalize (sI M5 (pO o b) 1 (mI M5 (pO o b) 1 + 1)) = M6 at *
    refine ⟨fun c2 => ?_, fun c2 => ?_⟩
    · rw [if_pos c2] at q
      exact s_endWay a6 hL fun M1 a1 => ⟨a1.1.1, q M1 a1⟩
    · rw [if_neg c2] at q
      have eb : b = false := by rw [hb]; exact decide_eq_false (by omega)
      subst eb
      have ht5 := hS6 5
      have ht4 := hS6 4
      refine s_tally (k := 5) a6 hL (by omega) (show inR (sT S 5 + 1) from ⟨by omega, by omega⟩) fun M7 a7 => ⟨a7.1.1, (s_tell a7 hL).pure ⟨a7.1.1, ?_⟩⟩
      have epl : mI M7 (o + 20) 1 = ((S.2.1 ++ [cNew P (S.1 (cur S)) c]).length : Int) := a7.1.plen
      have et : xTell (uT (uL false S (sL false S ++ [cNew P (S.1 (cur S)) c])) 5 (sT (uL false S (sL false S ++ [cNew P (S.1 (cur S)) c])) 5 + 1)) 4 = sT S 4 := rfl
      rw [epl, et]
      have hl2 : (S.2.1 ++ [cNew P (S.1 (cur S)) c]).length = S.2.1.length + 1 := by simp
      have hl3 : S.2.1.length < 30 := by have : (sL false S).length < 30 := by omega
                                         exact this
      refine ⟨⟨by omega, by omega⟩, s_tally (k := 4) a7 hL (by omega) (show inR (sT S 4 + _) from ?_) fun M8 a8 => ⟨a8.1.1, s_endWay a8 hL fun M9 a9 => ⟨a9.1.1, q M9 a9⟩⟩⟩
      split
      · exact ⟨by omega, by omega⟩
      · exact ⟨by omega, by omega⟩
  · rw [if_neg (by omega)] at q
    exact s_finish h hL fun M1 a1 => ⟨a1.1.1, q M1 a1⟩
theorem s_choose97 {c : Int × Pt} {X : Nat} {b : Bool} {Q : Int → ZMem → Prop} (hd : 3 ≤ d) (h : Ax K M0 M o P S) (hL : SrK K o) (hP : PB P) (hS : SB P S) (hb : b = nB S) (hX : X = mR M (pO o b + 1) (sL b S).length) (hg : gP M X = (c.2.1, c.2.2.1, fup c.2.2.2 3 c.1))
    (q : ∀ M', Ax K M0 M' o P (xChoose2 P S c).2 → Q (xChoose2 P S c).1 M') : Xi d q6_choose 97 [some (zr o), some (zr (o + 397 + 4 * cur S)), none, some (zr (pO o b)), some (zr X), none] [] M Q := by
  have hS7 := hS.2.2.2.2.2.2.1
  have hc : cur S < 7 := by unfold cur; omega
  have hlen : (sL b S).length ≤ 30 := by cases b; exact hS.2.2.2.1; exact hS.2.2.2.2.1
  have hat := (h.1.ps b).at (hL.ps b) (i := (sL b S).length) (by omega)
  rw [← hX] at hat
  have e3 : mI M X 3 = c.1 := by
    have : (gP M X).2.2 3 = c.1 := by rw [hg]; show fup c.2.2.2 3 c.1 3 = c.1; exact fup_self
    exact this
  have e8 : mI M o 8 = sC S 8 := h.1.c (by omega) (by omega)
  have e9 : mI M o 9 = sC S 9 := h.1.c (by omega) (by omega)
  have e11 : mI M o 11 = sC S 11 := h.1.c (by omega) (by omega)
  have e5 : mI M (o + 397 + 4 * cur S) 5 = (S.1 (cur S)).1 5 := h.w3 hc (by omega) (by omega)
  unfold xChoose2 at q
  obtain ⟨d, rfl⟩ : ∃ e, d = e + 1 := ⟨d - 1, by omega⟩
  refine B6_choose_97 o _ (pO o b) X h.1.1 hL.1 (hL.way hc).2 ?_
  rw [e3, e8, e9, e11, e5]
  refine ⟨hat, fun c1 => ⟨fun c2 => ?_, fun c2 => ⟨fun c3 => ?_, fun c3 => ⟨fun c4 => ?_, fun c4 => ?_⟩⟩⟩, fun c1 => ?_⟩
  · rw [if_neg (by omega), if_neg (fun q => c2 q.1)] at q
    exact s_keep hd h hL hP hS hb hX hg q
  · rw [if_neg (by omega), if_neg (fun q => c3 q.2.1)] at q
    exact s_keep hd h hL hP hS hb hX hg q
  · rw [if_neg (by omega), if_neg (fun q => by have := q.2.2; omega)] at q
    exact s_keep hd h hL hP hS hb hX hg q
  · rw [if_neg (by omega), if_pos ⟨by omega, by omega, by omega⟩] at q
    exact s_endWay (h.kC (by omega) (by omega)) hL fun M1 a1 => ⟨a1.1.1, q M1 a1⟩
  · rw [if_pos (by omega)] at q
    exact s_endWay h hL fun M1 a1 => ⟨a1.1.1, q M1 a1⟩
theorem s_choose {s : Int} {Q : Int → ZMem → Prop} (hd : 3 ≤ d) (h : Ax K M0 M o P S) (hL : SrK K o) (hP : PB P) (hS : SB P S) (hs : inR (s + 1)) (q : ∀ j M', Ax K M0 M' o P (xChoose P S s j).2 → Q (xChoose P S s j).1 M') : Ci d q6_choose [zr o, zr (o + 397 + 4 * cur S), zi s] M Q := by
  obtain ⟨d, rfl⟩ : ∃ e, d = e + 1 := ⟨d - 1, by omega⟩
  have hS7 := hS.2.2.2.2.2.2.1
  have hc : cur S < 7 := by unfold cur; omega
  have e11 : mI M o 11 = sC S 11 := h.1.c (by omega) (by omega)
  have all : ∀ b : Bool, b = nB S → Xi (d + 1) q6_choose 19 [some (zr o), some (zr (o + 397 + 4 * cur S)), some (zi s), some (zr (pO o b)), none, none] [] M Q := fun b hb => by
    have hlen : (sL b S).length ≤ 30 := by cases b; exact hS.2.2.2.1; exact hS.2.2.2.2.1
    have hps := h.1.ps b
    have hln := h.1.len b
    have hO := pO_le (o := o) (b := b)
    have hrow := hps.row (i := (sL b S).length) (by omega)
    have hat := hps.at (hL.ps b) (i := (sL b S).length) (by omega)
    generalize hX : mR M (pO o b + 1) (sL b S).length = X at *
    have hA : ∀ M', KW K M' → Fr (bk X 6) M M' → Ax K M0 M' o P S := fun M' k f => h.spare b k (by omega) (by rw [hX]; exact f)
    have nx : ∀ (M1 : ZMem), KW K M1 → Fr (bk X 6) M M1 → ∀ c : Int × Pt, c = cPrep P (S.1 (cur S)).2.1 s (gP M X) → gP M1 X = c.2 → Xi (d + 1) q6_choose 97 [some (zr o), some (zr (o + 397 + 4 * cur S)), none, some (zr (pO o b)), some (zr X), none] [] (sI M1 X 3 c.1) Q := fun M1 k1 f1 c ec g1 => by
      have f2 : Fr (bk X 6) M (sI M1 X 3 c.1) := f1.sI ⟨by omega, by omega⟩
      refine s_choose97 (c := c) (by omega) (hA _ (k1.sI _ _ _) f2) hL hP hS hb ?_ (by rw [gP_f (by omega) (by omega), g1]) ?_
      · rw [f2.r (fun q => by unfold bk at q; omega), hX]
      · intro M3 a3
        subst ec
        exact q _ M3 a3
    refine B6_choose_19 o _ s (pO o b) h.1.1 hL.1 (hL.way hc).2 ⟨(hL.ps b).1, (s_spare h.1.1 (hL.ps b) hps (by omega)).pure ⟨h.1.1, ?_⟩⟩
    rw [show (mI M (pO o b) 1).toNat = (sL b S).length by omega, hX]
    refine ⟨fun _ => (s_kindOf (by omega) h.1.1 hL.prog).pure ⟨h.1.1, ?_⟩, fun c => absurd c (by omega)⟩
    rw [h.g]
    refine ⟨fun c5 => ⟨fun c3 => ?_, fun c3 => ?_⟩, fun c5 => ?_⟩
    · exact s_prepareAmong (by omega) h hL hP hS hat hA hs c3 c5 fun M1 k1 f1 g1 => ⟨k1, hat, nx M1 k1 f1 _ rfl g1⟩
    · exact s_prepareUpTo (by omega) h hL hP hS hat (Decidable.not_not.mp c3) fun M1 k1 f1 g1 => ⟨k1, hat, nx M1 k1 f1 _ rfl g1⟩
    · refine (s_partsOf (by omega) h.1.1 hL.prog).pure ⟨h.1.1, hat, ?_⟩
      rw [h.g]
      have e : (gParts P s, gP M X) = cPrep P (S.1 (cur S)).2.1 s (gP M X) := by rw [cPrep, if_pos (Decidable.not_not.mp c5)]
      exact nx M h.1.1 Fr.refl (gParts P s, gP M X) e rfl
  refine B6_choose o _ s h.1.1 hL.1 (hL.way hc).2 ?_
  rw [e11]
  exact ⟨fun c => all false (decide_eq_false (by omega)).symm, fun c => all true (decide_eq_true (by omega)).symm⟩
end CHOOSE2
