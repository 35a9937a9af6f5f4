/-! open on both sides: the points -/
section OPENS
variable {K M : ZMem}
/-- what is seen of an open point on both sides -/
def OpQ (q : Pt) (p : Pf) : Prop := (p 32 = q.1.1 5 ∧ p 33 = q.1.1 6 ∧ p 46 = q.2.2 5 ∧ p 37 = q.2.2 3 ∧ p 36 = q.2.2 4) ∧ (∀ v, v < 8 → p v = q.1.2.1 v) ∧ 0 ≤ q.2.2 3 ∧ q.2.2 3 ≤ 3000 ∧ 0 ≤ q.2.2 4 ∧ q.2.2 4 < q.2.2 3
def OpS (l : List Pt) (l' : List Pf) : Prop := l.length ≤ l'.length ∧ l.length ≤ 30 ∧ (∀ J, J < l.length → gp l' J 45 = 0) ∧ (∀ J, l.length ≤ J → J < l'.length → gp l' J 45 ≠ 0) ∧ ∀ J, J < l.length → OpQ (gq l J) (gp l' J)
theorem RS_open0 {P : Pg} {σ D : Int → Int} {root price : Int} {S : Sr} {U : Tr} {b t : Int} (h : RS P σ root price D S U b t) : OpS S.2.1 U.2.2.1 := by
  have hl := CL_len (S := S)
  have hRP := h.2.2.2.1
  have hUl := hRP.1
  have hD := h.2.2.2.2.1
  refine ⟨by omega, h.sb.2.2.2.1, hRP.2.2.2.1, fun J h1 h2 => ?_, fun J hJ => ?_⟩
  · have := (hRP.2.2.2.2.1 J h1 (by omega)).1
    omega
  · have h45 := hRP.2.2.2.1 J hJ
    obtain ⟨hb, l, hpt, hl45⟩ := h.pt (R := J) (by omega)
    rw [gq_lo hJ] at hb hpt
    obtain ⟨w, _, _, h36, h37, _, _, _, h46, h33⟩ := hpt
    obtain ⟨w1, _, _, _, w5, _⟩ := w
    rw [hl45, h45, hD] at w5
    exact ⟨⟨by omega, h33 h45, h46, h37, h36⟩, w1, hb.2.2.2.1.1, hb.2.2.2.1.2, hb.2.2.2.2.1, hb.2.2.2.2.2⟩
theorem LaB.open0 {P : Pg} {S : Sr} {U : Tr} {T : Nat} {c : Int} (h : LaB M P S U T c) : OpS S.2.1 U.2.2.1 := by
  obtain ⟨σ, root, price, D, h1, h2, h3, h4⟩ := h
  rcases h4 with ⟨_, r⟩ | ⟨_, r⟩
  · exact RS_open0 r
  · have q := RS_open0 r
    exact q
theorem oo_loop {d s : Nat} {U : Tr} {l : List Pt} {b : Int} (hM : ModelAt K 2230) (hK : KW K M) (h16 : mI M 2230 16 = s) (hU : vT (mI M 2239) s = U) (h14 : 0 ≤ U.1 14 ∧ U.1 14 ≤ 61) (hs : s + 3849 ≤ 19245) (ho : OpS l U.2.2.1) (hb : 0 ≤ b ∧ b ≤ 2147483647) {Q : Int → ZMem → Prop} (q : Q (if b < l.length then b else -1) M) : ∀ (j n : Nat) (x : Int), n + j = U.2.2.1.length → ((n : Int) ≤ b ∧ n ≤ l.length ∧ x = b - n ∨ l.length ≤ n ∧ (l.length : Int) ≤ b ∧ x = b - l.length) → Xi (d + 1) q10_openOne 4 [some (zr 2230), none, some (zi x), some (zi (n : Int))] [] M Q
  | 0, n, x, e, hx => by
    have h := rv_rm hK h16 hU h14 hs
    have hn := h.n61
    have et : mI (sI M 2230 17 (s + 17)) 2239 ((s : Int) + 14).toNat = U.1 14 := h.sc (i := (s : Int) + 14) (k := 14) rfl (by omega)
    rw [mI_sI, if_neg (by omega)] at et
    have hl := ho.1
    rw [if_neg (by omega)] at q
    refine B10_openOne_4 x n hK hM ?_
    rw [h16]
    repeat (first | refine pe1 (by omega) ?_ | refine pe2 (by omega) ?_ | refine pe3 (by omega) ?_)
    rw [et]
    exact ⟨fun _ => q, fun c => absurd c (by omega)⟩
  | j + 1, n, x, e, hx => by
    have h := rv_rm hK h16 hU h14 hs
    have hn := h.n61
    have et : mI (sI M 2230 17 (s + 17)) 2239 ((s : Int) + 14).toNat = U.1 14 := h.sc (i := (s : Int) + 14) (k := 14) rfl (by omega)
    rw [mI_sI, if_neg (by omega)] at et
    have hln : n < U.2.2.1.length := by omega
    have ih := oo_loop (d := d) (Q := Q) hM hK h16 hU h14 hs ho hb q j (n + 1)
    have ep : mI (sI M 2230 17 (s + 17)) 2239 ((s : Int) + 262 + 47 * n + 45).toNat = gp U.2.2.1 n 45 := h.p (i := (s : Int) + 262 + 47 * n + 45) (k := 45) rfl (gp_some hln) (by omega)
    rw [mI_sI, if_neg (by omega)] at ep
    refine B10_openOne_4 x n hK hM ?_
    rw [h16]
    repeat (first | refine pe1 (by omega) ?_ | refine pe2 (by omega) ?_ | refine pe3 (by omega) ?_)
    rw [et]
    refine ⟨fun c => absurd c (by omega), fun _ => B10_pointAt n hK hM ?_⟩
    rw [h16]
    refine ⟨⟨by omega, by omega⟩, ⟨by omega, by omega⟩, ⟨by omega, by omega⟩, hK, ?_⟩
    repeat (first | refine pe1 (by omega) ?_ | refine pe2 (by omega) ?_ | refine pe3 (by omega) ?_)
    rw [ep]
    by_cases c : n < l.length
    · have h45 := ho.2.2.1 n c
      refine ⟨fun c2 => absurd h45 c2, fun _ => ⟨fun c3 => ⟨⟨by omega, by omega⟩, ⟨by omega, by omega⟩, ih _ (by omega) (by omega)⟩, fun c3 => ?_⟩⟩
      rw [if_pos (by omega), show b = (n : Int) by omega] at q
      exact q
    · have h45 := ho.2.2.2.1 n (by omega) hln
      exact ⟨fun _ => ⟨⟨by omega, by omega⟩, ih _ (by omega) (by omega)⟩, fun c2 => absurd h45 c2⟩
theorem n_openOne {d s : Nat} {U : Tr} {l : List Pt} {b : Int} (hd : 1 ≤ d) (hM : ModelAt K 2230) (hK : KW K M) (h16 : mI M 2230 16 = s) (hU : vT (mI M 2239) s = U) (h14 : 0 ≤ U.1 14 ∧ U.1 14 ≤ 61) (hs : s + 3849 ≤ 19245) (ho : OpS l U.2.2.1) (hb : 0 ≤ b ∧ b ≤ 2147483647) {Q : Int → ZMem → Prop} (q : Q (if b < l.length then b else -1) M) : Ci d q10_openOne [zr 2230, zi b] M Q := by
  obtain ⟨d, rfl⟩ : ∃ e, d = e + 1 := ⟨d - 1, by omega⟩
  exact B10_openOne b hK hM (oo_loop hM hK h16 hU h14 hs ho hb q U.2.2.1.length 0 b (by omega) (Or.inl ⟨by omega, by omega, by omega⟩))
end OPENS
