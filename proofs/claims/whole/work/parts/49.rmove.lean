/-! the reference: one move, by what stands there -/
def oBump (U : Tr) : Tr := oS U 4 (U.1 4 + 1)
section RMOVE
variable {d : Nat} {K M0 M M' : ZMem} {s lv : Nat} {b : Int} {U : Tr}
theorem RM.cpW (h : RM K M0 M s lv b U) {i : Nat} {x : Int} (hi : i < 7) (hx : x = s + 17 + 35 * i) : RM K M0 (sA M 2239 (zCpy (mI M 2239) (mI M 2239) x.toNat ((s : Int) + 17 + 35 * lv).toNat 35)) s lv b (oW U lv (U.2.1 i)) := by
  have hs := h.2.2.2.2.2.2.1
  have hl := h.2.2.2.2.2.2.2.1
  have hn := h.n61
  have er : ∀ j, mI (sA M 2239 (zCpy (mI M 2239) (mI M 2239) x.toNat ((s : Int) + 17 + 35 * lv).toNat 35)) 2239 j = if s + 17 + 35 * lv ≤ j ∧ j < s + 17 + 35 * lv + 35 then mI M 2239 (s + 17 + 35 * i + (j - (s + 17 + 35 * lv))) else mI M 2239 j := fun j => by
    rw [mI_sA, if_pos rfl]
    unfold zCpy
    by_cases c : s + 17 + 35 * lv ≤ j ∧ j < s + 17 + 35 * lv + 35
    · rw [if_pos c, if_pos (by omega)]
      congr 1
      omega
    · rw [if_neg c, if_neg (by omega)]
  have f := h.2.2.2.2.2.2.2.2
  refine ⟨h.1.sA _ _, by rw [r_ca]; exact h.2.1, by rw [r_ca]; exact h.2.2.1, by rw [r_ca]; exact h.2.2.2.1, ?_, h.2.2.2.2.2.1, hs, hl, f.1.sA (Or.inr (Or.inl rfl)), fun k hk => by rw [er, if_neg (by omega)]; exact f.2.1 k hk, fun k hk => by rw [r_ca]; exact f.2.2 k hk⟩
  have etq : U.2.1 i = tq 0 35 (fun k => mI M 2239 (s + 17 + 35 * i + k)) := by
    rw [← h.2.2.2.2.1]
    exact if_pos hi
  rw [vT_way (g := fun k => mI M 2239 (s + 17 + 35 * i + k)) hl hn.1 er, h.2.2.2.2.1, ← etq]
theorem RM.same (h : RM K M0 M s lv b U) {i : Nat} (hi : i = lv) : U.2.1 i = U.2.1 lv := by rw [hi]
theorem r_move_assign {n : Int} {e : Nat} {Q : Int → ZMem → Prop} (hd : e + 5 ≤ d) (h : RM K M0 M s lv b U) (hM : ModelAt K 2230) (hb : 0 ≤ b ∧ b ≤ 2000) (h4 : 0 ≤ U.1 4 ∧ U.1 4 ≤ 100000000) (hw : U.2.1 lv 8 = n) (hn : 0 ≤ n ∧ n < 70200) (hop : mI M0 2232 n.toNat = 7) (ha : 0 ≤ mI M0 2233 n.toNat ∧ mI M0 2233 n.toNat < 8) (hE : exN M0 e (mI M0 2234 n.toNat)) (q0 : b = 0 → Q 2 M)
    (q1 : b ≠ 0 → evN M0 (U.2.1 lv) e (mI M0 2234 n.toNat) = none → ∀ M', RM K M0 M' s lv (b - 1) (oBump U) → Q 6 M')
    (q2 : b ≠ 0 → ∀ v, evN M0 (U.2.1 lv) e (mI M0 2234 n.toNat) = some v → ∀ M', RM K M0 M' s lv (b - 1) (oW (oBump U) lv (fup (fup (U.2.1 lv) (mI M0 2233 n.toNat).toNat v) 8 (mI M0 2236 n.toNat))) → Q 0 M') : Ci d q10_move [zr 2230] M Q := by
  obtain ⟨d, rfl⟩ : ∃ e, d = e + 1 := ⟨d - 1, by omega⟩
  have hs := h.2.2.2.2.2.2.1
  have hl := h.2.2.2.2.2.2.2.1
  have e8 : mI M 2239 ((s : Int) + 17 + 35 * lv + 8).toNat = n := (h.w (v := lv) (k := 8) rfl hl (by omega)).trans hw
  refine B10_move h.1 hM ?_
  rw [h.2.2.1, e8]
  repeat (first | refine pe1 (by omega) ?_ | refine pe2 (by omega) ?_ | refine pe3 (by omega) ?_)
  refine ⟨fun _ => r_mayStep h hM hb h4 (fun cb M4 a4 => ⟨a4.1, fun _ => ?_, fun c => absurd (by decide) c⟩) (fun cb => ⟨h.1, fun c => absurd rfl c, fun _ => q0 cb⟩), fun c => absurd (by omega) c⟩
  have a4 : RM K M0 M4 s lv (b - 1) (oBump U) := a4
  have eop : mI M4 2232 n.toNat = mI M0 2232 n.toNat := a4.nd 2232 (by omega) (by omega) _
  have ea : mI M4 2233 n.toNat = mI M0 2233 n.toNat := a4.nd 2233 (by omega) (by omega) _
  have eb : mI M4 2234 n.toNat = mI M0 2234 n.toNat := a4.nd 2234 (by omega) (by omega) _
  rw [eop]
  repeat (first | refine pe1 (by omega) ?_ | refine pe2 (by omega) ?_ | refine pe3 (by omega) ?_)
  refine ⟨fun _ => ?_, fun c => absurd c (by omega), fun c => absurd c (by omega), fun c => absurd c (by omega), fun c => absurd c (by omega), fun c => absurd c (by omega), fun c => absurd c (by omega)⟩
  repeat (first | refine pe1 (by omega) ?_ | refine pe2 (by omega) ?_ | refine pe3 (by omega) ?_)
  have a5 := a4.kv (x := 1)
  have eb5 : mI (sI M4 2230 19 1) 2234 n.toNat = mI M0 2234 n.toNat := a5.nd 2234 (by omega) (by omega) _
  rw [a5.2.2.1, eb5]
  repeat (first | refine pe1 (by omega) ?_ | refine pe2 (by omega) ?_ | refine pe3 (by omega) ?_)
  refine r_wworks (n := e) (by omega) a5 hM hE (Or.inr rfl) mI_sI_eq ⟨a5.1.sI _ _ _, ?_⟩
  simp only [r_sc]
  rw [sI_sI, mI_sI_eq]
  have a6 := a4.kv (x := wfl 1 (evN M0 ((oBump U).2.1 lv) e (mI M0 2234 n.toNat)))
  have ea6 : mI (sI M4 2230 19 (wfl 1 (evN M0 ((oBump U).2.1 lv) e (mI M0 2234 n.toNat)))) 2233 n.toNat = mI M0 2233 n.toNat := a6.nd 2233 (by omega) (by omega) _
  rw [ea6, a6.2.2.1]
  generalize sI M4 2230 19 (wfl 1 (evN M0 ((oBump U).2.1 lv) e (mI M0 2234 n.toNat))) = M6 at *
  cases ev : evN M0 ((oBump U).2.1 lv) e (mI M0 2234 n.toNat) with
  | none =>
    rw [wfl_n]
    refine ⟨fun _ => ?_, fun c => absurd rfl c⟩
    exact r_goesBehind (is := false) a6 hM hn (fun c => absurd c (by decide)) fun _ M7 a7 => ⟨a7.1, q1 cb ev M7 a7⟩
  | some v =>
    rw [wfl_s, wvl_s]
    refine ⟨fun c => absurd c (by decide), fun _ => ?_⟩
    repeat (first | refine pe1 (by omega) ?_ | refine pe2 (by omega) ?_ | refine pe3 (by omega) ?_)
    have a7 := a6.kW (i := (s : Int) + 17 + 35 * lv + mI M0 2233 n.toNat) (x := v) (v := lv) (k := (mI M0 2233 n.toNat).toNat) (by omega) hl (by omega)
    refine r_goesBehind (is := true) a7 hM hn (fun _ M8 a8 => ⟨a8.1, q2 cb v ev M8 ?_⟩) (fun c => absurd c (by decide))
    rw [oW_oW, oW_at] at a8
    exact a8
theorem r_move_test {n : Int} {e : Nat} {Q : Int → ZMem → Prop} (hd : e + 5 ≤ d) (h : RM K M0 M s lv b U) (hM : ModelAt K 2230) (hb : 0 ≤ b ∧ b ≤ 2000) (h4 : 0 ≤ U.1 4 ∧ U.1 4 ≤ 100000000) (hw : U.2.1 lv 8 = n) (hn : 0 ≤ n ∧ n < 70200) (hop : mI M0 2232 n.toNat = 10) (hA : exN M0 e (mI M0 2233 n.toNat)) (hE : exN M0 e (mI M0 2234 n.toNat)) (q0 : b = 0 → Q 2 M)
    (q1 : b ≠ 0 → oIs M0 (U.2.1 lv) e n = false → ∀ M', RM K M0 M' s lv (b - 1) (oBump U) → Q 6 M')
    (q2 : b ≠ 0 → oIs M0 (U.2.1 lv) e n = true → ∀ M', RM K M0 M' s lv (b - 1) (oW (oBump U) lv (fup (U.2.1 lv) 8 (mI M0 2236 n.toNat))) → Q 0 M') : Ci d q10_move [zr 2230] M Q := by
  obtain ⟨d, rfl⟩ : ∃ e, d = e + 1 := ⟨d - 1, by omega⟩
  have hs := h.2.2.2.2.2.2.1
  have hl := h.2.2.2.2.2.2.2.1
  have e8 : mI M 2239 ((s : Int) + 17 + 35 * lv + 8).toNat = n := (h.w (v := lv) (k := 8) rfl hl (by omega)).trans hw
  refine B10_move h.1 hM ?_
  rw [h.2.2.1, e8]
  repeat (first | refine pe1 (by omega) ?_ | refine pe2 (by omega) ?_ | refine pe3 (by omega) ?_)
  refine ⟨fun _ => r_mayStep h hM hb h4 (fun cb M4 a4 => ⟨a4.1, fun _ => ?_, fun c => absurd (by decide) c⟩) (fun cb => ⟨h.1, fun c => absurd rfl c, fun _ => q0 cb⟩), fun c => absurd (by omega) c⟩
  have a4 : RM K M0 M4 s lv (b - 1) (oBump U) := a4
  have eop : mI M4 2232 n.toNat = mI M0 2232 n.toNat := a4.nd 2232 (by omega) (by omega) _
  have ea : mI M4 2233 n.toNat = mI M0 2233 n.toNat := a4.nd 2233 (by omega) (by omega) _
  have eb : mI M4 2234 n.toNat = mI M0 2234 n.toNat := a4.nd 2234 (by omega) (by omega) _
  rw [eop]
  repeat (first | refine pe1 (by omega) ?_ | refine pe2 (by omega) ?_ | refine pe3 (by omega) ?_)
  refine ⟨fun c => absurd c (by omega), fun _ => ?_, fun c => absurd c (by omega), fun c => absurd c (by omega), fun c => absurd c (by omega), fun c => absurd c (by omega), fun c => absurd c (by omega)⟩
  repeat (first | refine pe1 (by omega) ?_ | refine pe2 (by omega) ?_ | refine pe3 (by omega) ?_)
  refine r_isSo (n := e) (by omega) a4 hM hn hA hE fun M5 a5 => ⟨a5.1, ?_⟩
  exact r_goesBehind a5 hM hn (fun c M6 a6 => ⟨a6.1, q2 cb c M6 a6⟩) fun c M6 a6 => ⟨a6.1, q1 cb c M6 a6⟩
theorem r_move_once {n : Int} {e : Nat} {Q : Int → ZMem → Prop} (hd : e + 5 ≤ d) (h : RM K M0 M s lv b U) (hM : ModelAt K 2230) (hb : 0 ≤ b ∧ b ≤ 2000) (h4 : 0 ≤ U.1 4 ∧ U.1 4 ≤ 100000000) (hw : U.2.1 lv 8 = n) (hn : 0 ≤ n ∧ n < 70200) (hop : mI M0 2232 n.toNat = 13) (h9 : 0 ≤ U.2.1 lv 9 ∧ U.2.1 lv 9 ≤ 6) (q0 : b = 0 → Q 2 M)
    (q1 : b ≠ 0 → ∀ M', RM K M0 M' s lv (b - 1) (oW (oBump U) lv (wEnters (U.2.1 lv) n (mI M0 2233 n.toNat) 0)) → Q 0 M') : Ci d q10_move [zr 2230] M Q := by
  obtain ⟨d, rfl⟩ : ∃ e, d = e + 1 := ⟨d - 1, by omega⟩
  have hs := h.2.2.2.2.2.2.1
  have hl := h.2.2.2.2.2.2.2.1
  have e8 : mI M 2239 ((s : Int) + 17 + 35 * lv + 8).toNat = n := (h.w (v := lv) (k := 8) rfl hl (by omega)).trans hw
  refine B10_move h.1 hM ?_
  rw [h.2.2.1, e8]
  repeat (first | refine pe1 (by omega) ?_ | refine pe2 (by omega) ?_ | refine pe3 (by omega) ?_)
  refine ⟨fun _ => r_mayStep h hM hb h4 (fun cb M4 a4 => ⟨a4.1, fun _ => ?_, fun c => absurd (by decide) c⟩) (fun cb => ⟨h.1, fun c => absurd rfl c, fun _ => q0 cb⟩), fun c => absurd (by omega) c⟩
  have a4 : RM K M0 M4 s lv (b - 1) (oBump U) := a4
  have eop : mI M4 2232 n.toNat = mI M0 2232 n.toNat := a4.nd 2232 (by omega) (by omega) _
  have ea : mI M4 2233 n.toNat = mI M0 2233 n.toNat := a4.nd 2233 (by omega) (by omega) _
  have eb : mI M4 2234 n.toNat = mI M0 2234 n.toNat := a4.nd 2234 (by omega) (by omega) _
  rw [eop]
  repeat (first | refine pe1 (by omega) ?_ | refine pe2 (by omega) ?_ | refine pe3 (by omega) ?_)
  refine ⟨fun c => absurd c (by omega), fun c => absurd c (by omega), fun _ => ?_, fun c => absurd c (by omega), fun c => absurd c (by omega), fun c => absurd c (by omega), fun c => absurd c (by omega)⟩
  repeat (first | refine pe1 (by omega) ?_ | refine pe2 (by omega) ?_ | refine pe3 (by omega) ?_)
  rw [ea]
  repeat (first | refine pe1 (by omega) ?_ | refine pe2 (by omega) ?_ | refine pe3 (by omega) ?_)
  exact r_enters a4 hM h9 fun M5 a5 => ⟨a5.1, q1 cb M5 a5⟩
theorem r_move_never {n : Int} {e : Nat} {Q : Int → ZMem → Prop} (hd : e + 5 ≤ d) (h : RM K M0 M s lv b U) (hM : ModelAt K 2230) (hb : 0 ≤ b ∧ b ≤ 2000) (h4 : 0 ≤ U.1 4 ∧ U.1 4 ≤ 100000000) (hw : U.2.1 lv 8 = n) (hn : 0 ≤ n ∧ n < 70200) (hop : mI M0 2232 n.toNat = 14) (h13 : U.1 13 = lv) (hl7 : lv + 1 < 7) (q0 : b = 0 → Q 2 M)
    (q1 : b ≠ 0 → ∀ M', RM K M0 M' s (lv + 1) (b - 1) (oW (oS (oBump U) 13 ((lv : Int) + 1)) (lv + 1) (wBegins (U.2.1 lv) (mI M0 2233 n.toNat))) → Q 0 M') : Ci d q10_move [zr 2230] M Q := by
  obtain ⟨d, rfl⟩ : ∃ e, d = e + 1 := ⟨d - 1, by omega⟩
  have hs := h.2.2.2.2.2.2.1
  have hl := h.2.2.2.2.2.2.2.1
  have e8 : mI M 2239 ((s : Int) + 17 + 35 * lv + 8).toNat = n := (h.w (v := lv) (k := 8) rfl hl (by omega)).trans hw
  refine B10_move h.1 hM ?_
  rw [h.2.2.1, e8]
  repeat (first | refine pe1 (by omega) ?_ | refine pe2 (by omega) ?_ | refine pe3 (by omega) ?_)
  refine ⟨fun _ => r_mayStep h hM hb h4 (fun cb M4 a4 => ⟨a4.1, fun _ => ?_, fun c => absurd (by decide) c⟩) (fun cb => ⟨h.1, fun c => absurd rfl c, fun _ => q0 cb⟩), fun c => absurd (by omega) c⟩
  have a4 : RM K M0 M4 s lv (b - 1) (oBump U) := a4
  have eop : mI M4 2232 n.toNat = mI M0 2232 n.toNat := a4.nd 2232 (by omega) (by omega) _
  have ea : mI M4 2233 n.toNat = mI M0 2233 n.toNat := a4.nd 2233 (by omega) (by omega) _
  have eb : mI M4 2234 n.toNat = mI M0 2234 n.toNat := a4.nd 2234 (by omega) (by omega) _
  rw [eop]
  repeat (first | refine pe1 (by omega) ?_ | refine pe2 (by omega) ?_ | refine pe3 (by omega) ?_)
  refine ⟨fun c => absurd c (by omega), fun c => absurd c (by omega), fun c => absurd c (by omega), fun _ => ?_, fun c => absurd c (by omega), fun c => absurd c (by omega), fun c => absurd c (by omega)⟩
  repeat (first | refine pe1 (by omega) ?_ | refine pe2 (by omega) ?_ | refine pe3 (by omega) ?_)
  refine (r_level a4 hM).pure ⟨a4.1, ?_⟩
  rw [show (oBump U).1 13 = lv from h13]
  repeat (first | refine pe1 (by omega) ?_ | refine pe2 (by omega) ?_ | refine pe3 (by omega) ?_)
  refine r_atLevel (v := lv + 1) a4 hM (by omega) hl7 fun M5 a5 => ⟨a5.1, ?_⟩
  rw [a4.2.2.1, a5.2.2.1]
  repeat (first | refine pe1 (by omega) ?_ | refine pe2 (by omega) ?_ | refine pe3 (by omega) ?_)
  have a6 := a5.cpW (i := lv) (x := (s : Int) + 17 + 35 * lv) hl rfl
  have ea6 : mI (sA M5 2239 (zCpy (mI M5 2239) (mI M5 2239) ((s : Int) + 17 + 35 * lv).toNat ((s : Int) + 17 + 35 * ((lv + 1 : Nat) : Int)).toNat 35)) 2233 n.toNat = mI M0 2233 n.toNat := a6.nd 2233 (by omega) (by omega) _
  rw [ea6]
  repeat (first | refine pe1 (by omega) ?_ | refine pe2 (by omega) ?_ | refine pe3 (by omega) ?_)
  refine r_begins a6 hM fun M7 a7 => ⟨a7.1, q1 cb M7 ?_⟩
  rw [oW_oW, oW_at] at a7
  exact a7
theorem r_move_cut {n : Int} {e : Nat} {Q : Int → ZMem → Prop} (hd : e + 5 ≤ d) (h : RM K M0 M s lv b U) (hM : ModelAt K 2230) (hb : 0 ≤ b ∧ b ≤ 2000) (h4 : 0 ≤ U.1 4 ∧ U.1 4 ≤ 100000000) (hw : U.2.1 lv 8 = n) (hn : 0 ≤ n ∧ n < 70200) (hop : mI M0 2232 n.toNat = 15) (h13 : U.1 13 = lv) (h7 : 0 ≤ U.1 7 ∧ U.1 7 ≤ 100000000) (q0 : b = 0 → Q 2 M)
    (q1 : b ≠ 0 → ∀ M', RM K M0 M' s lv (b - 1) (oW (cutsF lv (U.2.1 lv 31) 62 (oBump U)) lv (fup ((cutsF lv (U.2.1 lv 31) 62 (oBump U)).2.1 lv) 8 (mI M0 2236 n.toNat))) → Q 0 M') : Ci d q10_move [zr 2230] M Q := by
  obtain ⟨d, rfl⟩ : ∃ e, d = e + 1 := ⟨d - 1, by omega⟩
  have hs := h.2.2.2.2.2.2.1
  have hl := h.2.2.2.2.2.2.2.1
  have e8 : mI M 2239 ((s : Int) + 17 + 35 * lv + 8).toNat = n := (h.w (v := lv) (k := 8) rfl hl (by omega)).trans hw
  refine B10_move h.1 hM ?_
  rw [h.2.2.1, e8]
  repeat (first | refine pe1 (by omega) ?_ | refine pe2 (by omega) ?_ | refine pe3 (by omega) ?_)
  refine ⟨fun _ => r_mayStep h hM hb h4 (fun cb M4 a4 => ⟨a4.1, fun _ => ?_, fun c => absurd (by decide) c⟩) (fun cb => ⟨h.1, fun c => absurd rfl c, fun _ => q0 cb⟩), fun c => absurd (by omega) c⟩
  have a4 : RM K M0 M4 s lv (b - 1) (oBump U) := a4
  have eop : mI M4 2232 n.toNat = mI M0 2232 n.toNat := a4.nd 2232 (by omega) (by omega) _
  have ea : mI M4 2233 n.toNat = mI M0 2233 n.toNat := a4.nd 2233 (by omega) (by omega) _
  have eb : mI M4 2234 n.toNat = mI M0 2234 n.toNat := a4.nd 2234 (by omega) (by omega) _
  rw [eop]
  repeat (first | refine pe1 (by omega) ?_ | refine pe2 (by omega) ?_ | refine pe3 (by omega) ?_)
  refine ⟨fun c => absurd c (by omega), fun c => absurd c (by omega), fun c => absurd c (by omega), fun c => absurd c (by omega), fun _ => ?_, fun c => absurd c (by omega), fun c => absurd c (by omega)⟩
  repeat (first | refine pe1 (by omega) ?_ | refine pe2 (by omega) ?_ | refine pe3 (by omega) ?_)
  have e31 : mI M4 2239 ((s : Int) + 17 + 35 * lv + 31).toNat = U.2.1 lv 31 := a4.w (v := lv) (k := 31) rfl hl (by omega)
  rw [a4.2.2.1, e31]
  repeat (first | refine pe1 (by omega) ?_ | refine pe2 (by omega) ?_ | refine pe3 (by omega) ?_)
  refine r_cuts (by omega) a4 hM h13 h7 fun M5 a5 => ⟨a5.1, ?_⟩
  exact r_goesBehind (is := true) a5 hM hn (fun _ M6 a6 => ⟨a6.1, q1 cb M6 a6⟩) fun c => absurd c (by decide)
theorem r_move_rounds {n : Int} {e : Nat} {Q : Int → ZMem → Prop} (hd : e + 5 ≤ d) (h : RM K M0 M s lv b U) (hM : ModelAt K 2230) (hb : 0 ≤ b ∧ b ≤ 2000) (h4 : 0 ≤ U.1 4 ∧ U.1 4 ≤ 100000000) (hw : U.2.1 lv 8 = n) (hn : 0 ≤ n ∧ n < 70200) (hop : mI M0 2232 n.toNat = 16) (h9 : 0 ≤ U.2.1 lv 9 ∧ U.2.1 lv 9 ≤ 6) (hr : -10 ≤ mI M0 2233 n.toNat ∧ mI M0 2233 n.toNat ≤ 100) (q0 : b = 0 → Q 2 M)
    (q1 : b ≠ 0 → ∀ M', RM K M0 M' s lv (b - 1) (oW (oBump U) lv (wEnters (U.2.1 lv) n (mI M0 2234 n.toNat) (mI M0 2233 n.toNat - 1))) → Q 0 M') : Ci d q10_move [zr 2230] M Q := by
  obtain ⟨d, rfl⟩ : ∃ e, d = e + 1 := ⟨d - 1, by omega⟩
  have hs := h.2.2.2.2.2.2.1
  have hl := h.2.2.2.2.2.2.2.1
  have e8 : mI M 2239 ((s : Int) + 17 + 35 * lv + 8).toNat = n := (h.w (v := lv) (k := 8) rfl hl (by omega)).trans hw
  refine B10_move h.1 hM ?_
  rw [h.2.2.1, e8]
  repeat (first | refine pe1 (by omega) ?_ | refine pe2 (by omega) ?_ | refine pe3 (by omega) ?_)
  refine ⟨fun _ => r_mayStep h hM hb h4 (fun cb M4 a4 => ⟨a4.1, fun _ => ?_, fun c => absurd (by decide) c⟩) (fun cb => ⟨h.1, fun c => absurd rfl c, fun _ => q0 cb⟩), fun c => absurd (by omega) c⟩
  have a4 : RM K M0 M4 s lv (b - 1) (oBump U) := a4
  have eop : mI M4 2232 n.toNat = mI M0 2232 n.toNat := a4.nd 2232 (by omega) (by omega) _
  have ea : mI M4 2233 n.toNat = mI M0 2233 n.toNat := a4.nd 2233 (by omega) (by omega) _
  have eb : mI M4 2234 n.toNat = mI M0 2234 n.toNat := a4.nd 2234 (by omega) (by omega) _
  rw [eop]
  repeat (first | refine pe1 (by omega) ?_ | refine pe2 (by omega) ?_ | refine pe3 (by omega) ?_)
  refine ⟨fun c => absurd c (by omega), fun c => absurd c (by omega), fun c => absurd c (by omega), fun c => absurd c (by omega), fun c => absurd c (by omega), fun _ => ?_, fun c => absurd c (by omega)⟩
  repeat (first | refine pe1 (by omega) ?_ | refine pe2 (by omega) ?_ | refine pe3 (by omega) ?_)
  rw [ea, eb]
  repeat (first | refine pe1 (by omega) ?_ | refine pe2 (by omega) ?_ | refine pe3 (by omega) ?_)
  exact r_enters a4 hM h9 fun M5 a5 => ⟨a5.1, q1 cb M5 a5⟩
theorem r_move_choose {n : Int} {e : Nat} {Q : Int → ZMem → Prop} (hd : e + 5 ≤ d) (h : RM K M0 M s lv b U) (hM : ModelAt K 2230) (hb : 0 ≤ b ∧ b ≤ 2000) (h4 : 0 ≤ U.1 4 ∧ U.1 4 ≤ 100000000) (hw : U.2.1 lv 8 = n) (hn : 0 ≤ n ∧ n < 70200) (hop : mI M0 2232 n.toNat = 8 ∨ mI M0 2232 n.toNat = 9 ∨ mI M0 2232 n.toNat = 11) (hc : chN M0 e n) (hlen : ¬ oFull U → U.2.2.1.length < 61) (he : U.1 3 ≠ -1 → exN M0 e (U.1 3)) (h16 : 0 ≤ U.1 16 ∧ U.1 16 ≤ 100000000) (h5 : 0 ≤ U.1 5 ∧ U.1 5 ≤ 100000000) (q0 : b = 0 → Q 2 M)
    (q1 : b ≠ 0 → ∀ (y : Int) (L : Pf), chR M0 (U.2.1 lv) e n y L → (y ≤ 0 → ∀ M', RM K M0 M' s lv (b - 1) (oBump U) → Q 6 M') ∧ (0 < y → oHit U lv → ∀ M', RM K M0 M' s lv (b - 1) (oS (oBump U) 10 1) → Q 6 M') ∧ (0 < y → ¬ oHit U lv → oFull U → ∀ M', RM K M0 M' s lv (b - 1) (oBump U) → Q 4 M') ∧ (0 < y → ¬ oHit U lv → ¬ oFull U → ∀ M', RM K M0 M' s lv (b - 1) (oMade (oBump U) (oNew (U.2.1 lv) n y L (U.1 16) (U.1 13) (oCost M0 (U.2.1 lv) e (U.1 3)))) → Q 6 M')) : Ci d q10_move [zr 2230] M Q := by
  obtain ⟨d, rfl⟩ : ∃ e, d = e + 1 := ⟨d - 1, by omega⟩
  have hs := h.2.2.2.2.2.2.1
  have hl := h.2.2.2.2.2.2.2.1
  have e8 : mI M 2239 ((s : Int) + 17 + 35 * lv + 8).toNat = n := (h.w (v := lv) (k := 8) rfl hl (by omega)).trans hw
  refine B10_move h.1 hM ?_
  rw [h.2.2.1, e8]
  repeat (first | refine pe1 (by omega) ?_ | refine pe2 (by omega) ?_ | refine pe3 (by omega) ?_)
  refine ⟨fun _ => r_mayStep h hM hb h4 (fun cb M4 a4 => ⟨a4.1, fun _ => ?_, fun c => absurd (by decide) c⟩) (fun cb => ⟨h.1, fun c => absurd rfl c, fun _ => q0 cb⟩), fun c => absurd (by omega) c⟩
  have a4 : RM K M0 M4 s lv (b - 1) (oBump U) := a4
  have eop : mI M4 2232 n.toNat = mI M0 2232 n.toNat := a4.nd 2232 (by omega) (by omega) _
  have ea : mI M4 2233 n.toNat = mI M0 2233 n.toNat := a4.nd 2233 (by omega) (by omega) _
  have eb : mI M4 2234 n.toNat = mI M0 2234 n.toNat := a4.nd 2234 (by omega) (by omega) _
  rw [eop]
  repeat (first | refine pe1 (by omega) ?_ | refine pe2 (by omega) ?_ | refine pe3 (by omega) ?_)
  refine ⟨fun c => absurd c (by omega), fun c => absurd c (by omega), fun c => absurd c (by omega), fun c => absurd c (by omega), fun c => absurd c (by omega), fun c => absurd c (by omega), fun _ => ?_⟩
  repeat (first | refine pe1 (by omega) ?_ | refine pe2 (by omega) ?_ | refine pe3 (by omega) ?_)
  refine r_makes (n := e) (by omega) a4 hM hc hlen he h16 h5 fun y L r => ?_
  obtain ⟨g1, g2, g3, g4⟩ := q1 cb y L r
  exact ⟨fun c M5 a5 => ⟨a5.1, g1 c M5 a5⟩, fun c c2 M5 a5 => ⟨a5.1, g2 c c2 M5 a5⟩, fun c c2 c3 M5 a5 => ⟨a5.1, g3 c c2 c3 M5 a5⟩, fun c c2 c3 M5 a5 => ⟨a5.1, g4 c c2 c3 M5 a5⟩⟩
end RMOVE
