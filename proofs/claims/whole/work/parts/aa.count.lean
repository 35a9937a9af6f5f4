/-! count on both sides -/
section COUNTS
variable {K M : ZMem}
def cnt (f : Nat → Int) : Nat → Int
  | 0 => 0
  | n + 1 => cnt f n + f n
theorem cnt_le {f : Nat → Int} (hb : ∀ k, k < 4 → 0 ≤ f k ∧ f k ≤ 60) : ∀ n, n ≤ 4 → 0 ≤ cnt f n ∧ cnt f n ≤ 60 * n
  | 0, _ => ⟨Int.le_refl 0, Int.le_refl 0⟩
  | n + 1, hn => by
    have h1 := cnt_le hb n (by omega)
    have h2 := hb n (by omega)
    rw [cnt]
    omega
theorem c_cntP {d : Nat} (hTop : TopAt K 2) (hK : KW K M) {f : Nat → Int} (hf : ∀ k, k < 4 → f k = if mI M (27 + 444 * k) 10 ≤ 0 then 0 else 1) {Q : Int → ZMem → Prop} (q : Q (cnt f 4) M) : ∀ (j n : Nat) (x : Int), n + j = 4 → x = cnt f n → Xi d q9_countPrograms 13 [none, some (zi x), some (zr 25), some (zi 4), some (zi (n : Int)), none] [] M Q
  | 0, n, x, e, hx => by
    obtain rfl : n = 4 := by omega
    rw [hx]
    exact B9_countPrograms_13 _ 25 4 _ hK hTop.2.2.2.2.2.2.2.2.1 ⟨fun _ => q, fun c => absurd c (by omega)⟩
  | j + 1, n, x, e, hx => by
    have hb := cnt_le (f := f) (fun k hk => by rw [hf k hk]; split <;> omega) n (by omega)
    have e25 : mS K 25 = (2, 4) := hTop.2.2.2.2.2.2.2.2.1
    have er : mR M 25 n = 27 + 444 * n := (hK.2.2.2 25 n (by rw [e25]; decide)).trans (hTop.2.2.2.2.2.2.2.2.2.2.2 n (by omega)).1
    have hPA : ProgramAt K (27 + 444 * n) := (hTop.2.2.2.2.2.2.2.2.2.2.2 n (by omega)).2.1
    have hfn := hf n (by omega)
    refine B9_countPrograms_13 _ 25 4 _ hK e25 ⟨fun c => absurd c (by omega), fun _ => ⟨by omega, by omega, ?_⟩⟩
    rw [Int.toNat_natCast, er]
    refine ⟨hPA, fun c => ⟨⟨by omega, by omega⟩, ⟨by omega, by omega⟩, ?_⟩, fun c => ⟨⟨by omega, by omega⟩, ⟨by omega, by omega⟩, ?_⟩⟩
    · rw [if_pos c] at hfn
      exact c_cntP hTop hK hf q j (n + 1) _ (by omega) (by rw [cnt, hfn, hx])
    · rw [if_neg c] at hfn
      exact c_cntP hTop hK hf q j (n + 1) _ (by omega) (by rw [cnt, hfn, hx])
theorem c_cntU {d : Nat} (hTop : TopAt K 2) (hK : KW K M) {f : Nat → Int} (hf : ∀ k, k < 4 → f k = if mI M (44 + 444 * k) 7 = 1 then 1 else 0) {Q : Int → ZMem → Prop} (q : Q (cnt f 4) M) : ∀ (j n : Nat) (x : Int), n + j = 4 → x = cnt f n → Xi d q9_countUndone 13 [none, some (zi x), some (zr 26), some (zi 4), some (zi (n : Int)), none] [] M Q
  | 0, n, x, e, hx => by
    obtain rfl : n = 4 := by omega
    rw [hx]
    exact B9_countUndone_13 _ 26 4 _ hK hTop.2.2.2.2.2.2.2.2.2.1 ⟨fun _ => q, fun c => absurd c (by omega)⟩
  | j + 1, n, x, e, hx => by
    have hb := cnt_le (f := f) (fun k hk => by rw [hf k hk]; split <;> omega) n (by omega)
    have e26 : mS K 26 = (3, 4) := hTop.2.2.2.2.2.2.2.2.2.1
    have er : mR M 26 n = 44 + 444 * n := (hK.2.2.2 26 n (by rw [e26]; decide)).trans (hTop.2.2.2.2.2.2.2.2.2.2.2 n (by omega)).2.2.1
    have hSA : SearchAt K (44 + 444 * n) := (hTop.2.2.2.2.2.2.2.2.2.2.2 n (by omega)).2.2.2
    have hfn := hf n (by omega)
    refine B9_countUndone_13 _ 26 4 _ hK e26 ⟨fun c => absurd c (by omega), fun _ => ⟨by omega, by omega, ?_⟩⟩
    rw [Int.toNat_natCast, er]
    refine ⟨hSA, fun c => ⟨⟨by omega, by omega⟩, ⟨by omega, by omega⟩, ?_⟩, fun c => ⟨⟨by omega, by omega⟩, ⟨by omega, by omega⟩, ?_⟩⟩
    · rw [if_neg c] at hfn
      exact c_cntU hTop hK hf q j (n + 1) _ (by omega) (by rw [cnt, hfn, hx])
    · rw [if_pos (Decidable.not_not.mp c)] at hfn
      exact c_cntU hTop hK hf q j (n + 1) _ (by omega) (by rw [cnt, hfn, hx])
theorem c_cntA {d : Nat} (hTop : TopAt K 2) (hK : KW K M) {f : Nat → Int} (hf : ∀ k, k < 4 → f k = mI M (44 + 444 * k + 18) 1) (hb : ∀ k, k < 4 → 0 ≤ f k ∧ f k ≤ 60) {Q : Int → ZMem → Prop} (q : Q (cnt f 4) M) : ∀ (j n : Nat) (x : Int), n + j = 4 → x = cnt f n → Xi d q9_countAnswers 13 [none, some (zi x), some (zr 26), some (zi 4), some (zi (n : Int)), none] [] M Q
  | 0, n, x, e, hx => by
    obtain rfl : n = 4 := by omega
    rw [hx]
    exact B9_countAnswers_13 _ 26 4 _ hK hTop.2.2.2.2.2.2.2.2.2.1 ⟨fun _ => q, fun c => absurd c (by omega)⟩
  | j + 1, n, x, e, hx => by
    have hc := cnt_le hb n (by omega)
    have hn := hb n (by omega)
    have e26 : mS K 26 = (3, 4) := hTop.2.2.2.2.2.2.2.2.2.1
    have er : mR M 26 n = 44 + 444 * n := (hK.2.2.2 26 n (by rw [e26]; decide)).trans (hTop.2.2.2.2.2.2.2.2.2.2.2 n (by omega)).2.2.1
    have hSA : SearchAt K (44 + 444 * n) := (hTop.2.2.2.2.2.2.2.2.2.2.2 n (by omega)).2.2.2
    have hfn := hf n (by omega)
    refine B9_countAnswers_13 _ 26 4 _ hK e26 ⟨fun c => absurd c (by omega), fun _ => ⟨by omega, by omega, ?_⟩⟩
    rw [Int.toNat_natCast, er, ← hfn]
    exact ⟨hSA, ⟨by omega, by omega⟩, ⟨by omega, by omega⟩, c_cntA hTop hK hf hb q j (n + 1) _ (by omega) (by rw [cnt, hx])⟩
theorem r_cnt0 {d : Nat} (hM : ModelAt K 2230) (hK : KW K M) {f : Nat → Int} (hf : ∀ k, k < 4 → f k = if mI M 2237 k = -1 then 0 else 1) {Q : Int → ZMem → Prop} (q : Q (cnt f 4) M) : ∀ (j n : Nat) (x : Int), n + j = 4 → x = cnt f n → Xi (d + 1) q10_count 34 [some (zr 2230), none, some (zi x), some (zi (n : Int))] [] M Q
  | 0, n, x, e, hx => by
    obtain rfl : n = 4 := by omega
    rw [hx]
    exact B10_count_34 _ _ hK hM ⟨fun _ => q, fun c => absurd c (by omega)⟩
  | j + 1, n, x, e, hx => by
    have hb := cnt_le (f := f) (fun k hk => by rw [hf k hk]; split <;> omega) n (by omega)
    have hfn := hf n (by omega)
    refine B10_count_34 _ _ hK hM ⟨fun c => absurd c (by omega), fun _ => ⟨by omega, by omega, ?_⟩⟩
    rw [Int.toNat_natCast]
    refine ⟨fun c => ⟨⟨by omega, by omega⟩, ⟨by omega, by omega⟩, ?_⟩, fun c => ⟨⟨by omega, by omega⟩, ⟨by omega, by omega⟩, ?_⟩⟩
    · rw [if_neg c] at hfn
      exact r_cnt0 hM hK hf q j (n + 1) _ (by omega) (by rw [cnt, hfn, hx])
    · rw [if_pos (Decidable.not_not.mp c)] at hfn
      exact r_cnt0 hM hK hf q j (n + 1) _ (by omega) (by rw [cnt, hfn, hx])
theorem r_cnt2 {d : Nat} (hM : ModelAt K 2230) (hK : KW K M) {f : Nat → Int} (hf : ∀ k, k < 4 → f k = if mI M 2239 (3849 * k) = 1 then 1 else 0) {Q : Int → ZMem → Prop} (q : Q (cnt f 4) M) : ∀ (j n : Nat) (x : Int), n + j = 4 → x = cnt f n → Xi (d + 1) q10_count 72 [some (zr 2230), none, some (zi x), some (zi (n : Int))] [] M Q
  | 0, n, x, e, hx => by
    obtain rfl : n = 4 := by omega
    rw [hx]
    exact B10_count_72 _ _ hK hM ⟨fun _ => q, fun c => absurd c (by omega)⟩
  | j + 1, n, x, e, hx => by
    have hb := cnt_le (f := f) (fun k hk => by rw [hf k hk]; split <;> omega) n (by omega)
    have hfn := hf n (by omega)
    refine B10_count_72 _ _ hK hM ⟨fun c => absurd c (by omega), fun _ => ⟨⟨by omega, by omega⟩, ⟨by omega, by omega⟩, by omega, by omega, ?_⟩⟩
    rw [show ((3849 * (n : Int)) + 0).toNat = 3849 * n by omega]
    refine ⟨fun c => ⟨⟨by omega, by omega⟩, ⟨by omega, by omega⟩, ?_⟩, fun c => ⟨⟨by omega, by omega⟩, ⟨by omega, by omega⟩, ?_⟩⟩
    · rw [if_neg c] at hfn
      exact r_cnt2 hM hK hf q j (n + 1) _ (by omega) (by rw [cnt, hfn, hx])
    · rw [if_pos (Decidable.not_not.mp c)] at hfn
      exact r_cnt2 hM hK hf q j (n + 1) _ (by omega) (by rw [cnt, hfn, hx])
theorem r_cnt3 {d : Nat} (hM : ModelAt K 2230) (hK : KW K M) {f : Nat → Int} (hf : ∀ k, k < 4 → f k = if mI M 2239 (3849 * k) = 0 then 0 else mI M 2239 (3849 * k + 15)) (hb : ∀ k, k < 4 → 0 ≤ f k ∧ f k ≤ 60) {Q : Int → ZMem → Prop} (q : Q (cnt f 4) M) : ∀ (j n : Nat) (x : Int), n + j = 4 → x = cnt f n → Xi (d + 1) q10_count 111 [some (zr 2230), none, some (zi x), some (zi (n : Int))] [] M Q
  | 0, n, x, e, hx => by
    obtain rfl : n = 4 := by omega
    rw [hx]
    exact B10_count_111 _ _ hK hM ⟨fun _ => q, fun c => absurd c (by omega)⟩
  | j + 1, n, x, e, hx => by
    have hc := cnt_le hb n (by omega)
    have hn := hb n (by omega)
    have hfn := hf n (by omega)
    have e15 : mI M 2239 ((3849 * (n : Int)) + 15).toNat = mI M 2239 (3849 * n + 15) := by rw [show ((3849 * (n : Int)) + 15).toNat = 3849 * n + 15 by omega]
    refine B10_count_111 _ _ hK hM ⟨fun c => absurd c (by omega), fun _ => n_isNone hM hK (by omega) ⟨hK, fun c => ?_, fun c => ⟨⟨by omega, by omega⟩, ⟨by omega, by omega⟩, ?_⟩⟩⟩
    · have c : ¬ mI M 2239 (3849 * n) = 0 := fun w => by rw [if_pos w] at c; exact absurd c (by decide)
      rw [if_neg c] at hfn
      rw [e15]
      exact ⟨⟨by omega, by omega⟩, ⟨by omega, by omega⟩, by omega, by omega, ⟨by omega, by omega⟩, ⟨by omega, by omega⟩, r_cnt3 hM hK hf hb q j (n + 1) _ (by omega) (by rw [cnt, hfn, hx])⟩
    · have c : mI M 2239 (3849 * n) = 0 := by
        by_cases w : mI M 2239 (3849 * n) = 0
        · exact w
        · exact absurd (if_neg w) c
      rw [if_pos c] at hfn
      exact r_cnt3 hM hK hf hb q j (n + 1) _ (by omega) (by rw [cnt, hfn, hx])
theorem both_count {d i : Nat} {a : Int} (hTop : TopAt K 2) (hM : ModelAt K 2230) (hd : 10 ≤ d) (hi : i < 512) (h : LaR K M i) : Both K d q9_count q10_count [zi a] i M := by
  obtain ⟨d, rfl⟩ : ∃ e, d = e + 1 := ⟨d - 1, by omega⟩
  have hK := h.1
  have e31 : mI M 3 1 = mI M 2230 1 := by
    obtain ⟨_, tp, n, T, _, ⟨h2, _⟩, ⟨h3, _⟩, _⟩ := h
    rw [h2, h3]
  have hP : ∀ k, k < 4 → (mI M (27 + 444 * k) 10 ≤ 0 ↔ mI M 2237 k = -1) := fun k hk => by
    obtain ⟨T, hT, _, _, _, hLP⟩ := h.srch hi hk
    rcases hLP k hk with ⟨w1, w2⟩ | ⟨w1, w2, σ, w3⟩
    · exact ⟨fun _ => w1, fun _ => by omega⟩
    · have e : mI M (27 + 444 * k) 10 = (gG M (27 + 444 * k)).2.2.2 := rfl
      have := w3.1.2.1
      exact ⟨fun w => by omega, fun w => absurd w w1⟩
  have hS : ∀ k, k < 4 → mI M (44 + 444 * k) 7 = mI M 2239 (3849 * k) ∧ mI M (44 + 444 * k + 18) 1 = (if mI M 2239 (3849 * k) = 0 then 0 else mI M 2239 (3849 * k + 15)) ∧ (0 ≤ mI M (44 + 444 * k + 18) 1 ∧ mI M (44 + 444 * k + 18) 1 ≤ 60) := fun k hk => by
    obtain ⟨T, hT, ⟨P, S, hAt, hLS⟩, _⟩ := h.srch hi hk
    have e7 : mI M (44 + 444 * k) 7 = sC S 7 := hAt.c (by decide) (by decide)
    have ea := hAt.an2
    obtain ⟨hnone, hLB⟩ := hLS.none
    have u0 := hLS.u0
    rw [vT_at (by decide), Nat.add_zero] at u0
    refine ⟨by rw [e7, u0], ?_⟩
    rcases hLS.2 with ⟨q1, q2, q3⟩ | q
    · rw [if_pos (by rw [u0]; exact q2)]
      omega
    · have hq := q.u0
      rw [if_neg (by rw [u0]; omega), ea, ← hq.2.2.2.2.2.1, vT_at (by decide)]
      have := hq.2.2.2.2.2
      rw [vT_at (by decide)] at this
      omega
  refine B9_count a hK hTop ⟨fun c => ?_, fun c => ⟨hK, B10_count a hK hM ⟨fun c2 => absurd c2 (by omega), fun _ => ⟨hK, e31, h.up⟩, fun c2 => absurd c2 (by omega), fun c2 => absurd c2 (by omega), fun c2 => absurd c2 (by omega)⟩⟩, fun c => ?_, fun c => ?_, fun c => ⟨hK, B10_count a hK hM ⟨fun c2 => absurd c2 (by omega), fun c2 => absurd c2 (by omega), fun c2 => absurd c2 (by omega), fun c2 => absurd c2 (by omega), fun _ => ⟨hK, rfl, h.up⟩⟩⟩⟩
  · refine B9_countPrograms hK hTop (c_cntP hTop hK (f := fun k => if mI M 2237 k = -1 then 0 else 1) (fun k hk => ?_) ⟨hK, hK, B10_count a hK hM ⟨fun _ => r_cnt0 hM hK (fun k hk => rfl) ⟨hK, rfl, h.up⟩ 4 0 0 rfl rfl, fun c2 => absurd c2 (by omega), fun c2 => absurd c2 (by omega), fun c2 => absurd c2 (by omega), fun c2 => absurd c2 (by omega)⟩⟩ 4 0 0 rfl rfl)
    try dsimp only
    by_cases w : mI M 2237 k = -1
    · rw [if_pos w, if_pos ((hP k hk).mpr w)]
    · rw [if_neg w, if_neg (fun q => w ((hP k hk).mp q))]
  · refine B9_countUndone hK hTop (c_cntU hTop hK (f := fun k => if mI M 2239 (3849 * k) = 1 then 1 else 0) (fun k hk => ?_) ⟨hK, hK, B10_count a hK hM ⟨fun c2 => absurd c2 (by omega), fun c2 => absurd c2 (by omega), fun _ => r_cnt2 hM hK (fun k hk => rfl) ⟨hK, rfl, h.up⟩ 4 0 0 rfl rfl, fun c2 => absurd c2 (by omega), fun c2 => absurd c2 (by omega)⟩⟩ 4 0 0 rfl rfl)
    try dsimp only
    rw [(hS k hk).1]
  · have hb : ∀ k, k < 4 → 0 ≤ mI M (44 + 444 * k + 18) 1 ∧ mI M (44 + 444 * k + 18) 1 ≤ 60 := fun k hk => (hS k hk).2.2
    exact B9_countAnswers hK hTop (c_cntA hTop hK (f := fun k => mI M (44 + 444 * k + 18) 1) (fun k hk => rfl) hb ⟨hK, hK, B10_count a hK hM ⟨fun c2 => absurd c2 (by omega), fun c2 => absurd c2 (by omega), fun c2 => absurd c2 (by omega), fun _ => r_cnt3 hM hK (fun k hk => (hS k hk).2.1) hb ⟨hK, rfl, h.up⟩ 4 0 0 rfl rfl, fun c2 => absurd c2 (by omega)⟩⟩ 4 0 0 rfl rfl)
end COUNTS
