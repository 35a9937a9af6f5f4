/-! the reference reads a U -/
def nuL (tp : Nat → Int) : Nat → Nat → Int → Nat × Int
  | 0, q, v => (q, v)
  | j + 1, q, v => if dg (tp q) then nuL tp j (q + 1) (10 * v + tp q - 48) else (q, v)
theorem nu_nuL {tp : Nat → Int} {p : Nat} (h : dg (tp p)) : nuL tp 3 p 0 = nu tp p := by
  unfold nu
  rw [nuL, if_pos h, nuL]
  by_cases c : dg (tp (p + 1))
  · rw [if_pos c, if_pos c, nuL]
    by_cases c2 : dg (tp (p + 2))
    · rw [if_pos c2, if_pos (show dg (tp (p + 1 + 1)) from c2), nuL]
      refine Prod.ext rfl ?_
      show 10 * (10 * (10 * 0 + tp p - 48) + tp (p + 1) - 48) + tp (p + 1 + 1) - 48 = 100 * (tp p - 48) + 10 * (tp (p + 1) - 48) + (tp (p + 2) - 48)
      rw [show p + 1 + 1 = p + 2 from rfl]
      omega
    · rw [if_neg c2, if_neg (show ¬ dg (tp (p + 1 + 1)) from c2)]
      refine Prod.ext rfl ?_
      show 10 * (10 * 0 + tp p - 48) + tp (p + 1) - 48 = 10 * (tp p - 48) + (tp (p + 1) - 48)
      omega
  · rw [if_neg c, if_neg c]
    refine Prod.ext rfl ?_
    show 10 * 0 + tp p - 48 = tp p - 48
    omega
theorem nuL_no {tp : Nat → Int} {p : Nat} (h : ¬ dg (tp p)) : nuL tp 3 p 0 = (p, 0) := by rw [nuL, if_neg h]
theorem nuL_le {tp : Nat → Int} : ∀ (j q : Nat) (v : Int), q ≤ (nuL tp j q v).1
  | 0, q, v => Nat.le_refl _
  | j + 1, q, v => by
    rw [nuL]
    split
    · have := nuL_le (tp := tp) j (q + 1) (10 * v + tp q - 48); omega
    · exact Nat.le_refl _
theorem chk_neg {w : Int} : ((chk w).bind fun u => chk (-u)) = chk (-w) := by
  unfold chk
  by_cases c : -999 ≤ w ∧ w ≤ 999
  · rw [if_pos c]; rfl
  · rw [if_neg c, if_neg (by omega)]; rfl
section RUNIT
variable {K M0 : ZMem} {tp : Nat → Int} {n T : Nat} {op td : Int}
theorem n_digits (hT : Tp tp n) (hM : ModelAt K 2230) {d p m : Nat} {Q : Int → ZMem → Prop} (hd : 2 ≤ d) (hp : p ≤ n) (hTb : T < 270) (hm : m ≤ p) : ∀ (j i : Nat) (v : Int) (M : ZMem), i + j = 3 → 0 ≤ v → v ≤ (if i = 0 then 0 else if i = 1 then 9 else if i = 2 then 99 else 999) → NM K M0 M tp n T (p + i) (-1) op td m →
    (∀ M', (nuL tp j (p + i) v).1 ≠ p → NM K M0 M' tp n T (nuL tp j (p + i) v).1 (-1) op td (m + 1) → ndB (T * 260 + m) M M' → nds M' (T * 260 + m) 1 (nuL tp j (p + i) v).2 0 0 → Q ((T * 260 + m : Nat) : Int) M') →
    (∀ M' x, (nuL tp j (p + i) v).1 = p → NM K M0 M' tp n T p p op td m → ndB (T * 260 + m) M M' → Q x M') → Xi (d + 1) q10_readsUnit 74 [some (zr 2230), some (zi p), some (zi v)] [] M Q
  | 0, i, v, M, hij, hv0, hv, h, q1, q2 => by
    have e2 := h.2.2.1.1
    have hn := hT.1
    rw [nuL] at q1 q2
    refine B10_readsUnit_74 p v h.1 hM ⟨⟨by omega, by omega⟩, fun c => ⟨fun c2 => ?_, fun c2 => absurd c2 (by omega)⟩, fun c => absurd c (by omega)⟩
    exact n_writes h hM hTb (fun _ => by omega) (fun c => absurd c (by decide)) fun _ M' a g s => ⟨a.1, q1 M' (by show p + i ≠ p; omega) a g s⟩
  | j + 1, i, v, M, hij, hv0, hv, h, q1, q2 => by
    have e2 := h.2.2.1.1
    have hn := hT.1
    rw [nuL] at q1 q2
    refine B10_readsUnit_74 p v h.1 hM ⟨⟨by omega, by omega⟩, fun c => absurd c (by omega), fun c => n_peek hT h hM (by omega) ⟨h.1, fun c2 => ?_, fun c2 => ⟨fun c3 => ?_, fun c3 => ?_⟩⟩⟩
    · have hin := hT.in (p := p + i) (by omega)
      rw [if_pos c2] at q1 q2
      have hv999 : v ≤ 99 := by
        by_cases c0 : i = 0
        · rw [if_pos c0] at hv; omega
        · by_cases c1 : i = 1
          · rw [if_neg c0, if_pos c1] at hv; omega
          · rw [if_neg c0, if_neg c1, if_pos (by omega)] at hv; omega
      refine ⟨⟨by omega, by omega⟩, n_peek hT h hM (by omega) ⟨h.1, ⟨by omega, by omega⟩, ⟨by omega, by omega⟩, ⟨by omega, by omega⟩, ?_⟩⟩
      have a := h.at' (x := mI M 2230 2 + 1) (p' := p + (i + 1)) (by omega) (by omega)
      refine n_digits hT hM hd hp hTb hm j (i + 1) (10 * v + tp (p + i) - 48) _ (by omega) (by omega) ?_ a (fun M' k1 k2 k3 k4 => q1 M' k1 k2 (ndB.trans ndB.refl.sc k3 (Nat.le_refl _)) k4) (fun M' x k1 k2 k3 => q2 M' x k1 k2 (ndB.trans ndB.refl.sc k3 (Nat.le_refl _)))
      rw [if_neg (by omega)]
      by_cases c0 : i = 0
      · rw [if_pos c0] at hv
        rw [if_pos (by omega)]; omega
      · rw [if_neg c0] at hv
        by_cases c1 : i = 1
        · rw [if_pos c1] at hv
          rw [if_neg (by omega), if_pos (by omega)]; omega
        · rw [if_neg (by omega), if_neg (by omega)]; omega
    · rw [if_neg c2] at q1 q2
      exact n_writes h hM hTb (fun _ => by omega) (fun c => absurd c (by decide)) fun _ M' a g s => ⟨a.1, q1 M' (by show p + i ≠ p; omega) a g s⟩
    · rw [if_neg c2] at q1 q2
      have i0 : i = 0 := by omega
      refine n_wrong h hM fun M1 a g => ⟨a.1, ?_⟩
      rw [if_neg (by decide), e2] at a
      have e : p + i = p := by omega
      rw [e] at a
      exact n_writes a hM hTb (fun c => absurd (Int.natCast_nonneg p) c) (fun _ => ⟨a.1, q2 M1 _ e a g⟩) (fun c => absurd (Int.natCast_nonneg p) c)
theorem n_unit (hT : Tp tp n) (hM : ModelAt K 2230) (hTb : T < 270) : ∀ (f p m d : Nat) (M : ZMem) (Q : Int → ZMem → Prop), p ≤ n → n < p + f → m ≤ p → f + 3 ≤ d → NM K M0 M tp n T p (-1) op td m →
    ((un tp f p).1 = 1 → ∀ M' m' x, NM K M0 M' tp n T (un tp f p).2.1 (-1) op td m' → ndB (T * 260 + m) M M' → m ≤ m' → m' ≤ m + ((un tp f p).2.1 - p) → exB M' (T * 260 + m') ((un tp f p).2.1 - p) x → (∀ vals, evN M' vals ((un tp f p).2.1 - p) x = chk (cw vals (un tp f p).2.2)) → Q x M') →
    ((un tp f p).1 ≠ 1 → ∀ M' p' m' x, NM K M0 M' tp n T p' ((un tp f p).2.1 : Nat) op td m' → ndB (T * 260 + m) M M' → Q x M') → Ci d q10_readsUnit [zr 2230] M Q
  | 0, p, m, d, M, Q, hp, hf, hm, hd, h, q1, q2 => by omega
  | f + 1, p, m, d, M, Q, hp, hf, hm, hd, h, q1, q2 => by
    obtain ⟨d, rfl⟩ : ∃ e, d = e + 1 := ⟨d - 1, by omega⟩
    have e2 := h.2.2.1.1
    have e3 := h.2.2.1.2.1
    have hn := hT.1
    rw [un] at q1 q2
    refine B10_readsUnit h.1 hM ⟨fun _ => n_isName hT h hM (by omega) (fun c => ⟨h.1, fun c2 => absurd c2 (by decide), fun _ => n_peek hT h hM (by omega) ⟨h.1, ?_⟩⟩) (fun c => ⟨h.1, fun _ => n_takes hT h hM (by omega) (by decide) (fun c2 => absurd c2 (by decide)) (fun _ c2 => ⟨h.1, fun _ => ?_, fun c3 => absurd rfl c3⟩) (fun _ c2 hin M1 a g => ⟨a.1, fun c3 => absurd c3 (by decide), fun _ => ?_⟩), fun c2 => absurd rfl c2⟩), fun c => absurd (by omega) c⟩
    · -- a name
      have hin := hT.in (p := p) (by omega)
      rw [if_neg (show ¬ tp p = 45 by omega), if_pos c] at q1
      refine ⟨⟨by omega, by omega⟩, ⟨by omega, by omega⟩, ?_⟩
      have a := h.at' (x := mI M 2230 2 + 1) (p' := p + 1) (by omega) (by omega)
      refine n_writes a hM hTb (fun _ => by omega) (fun c => absurd c (by decide)) fun _ M' a2 g2 s2 => ⟨a2.1, q1 rfl M' (m + 1) _ a2 (ndB.trans ndB.refl.sc g2 (Nat.le_refl _)) (by omega) (by show m + 1 ≤ m + (p + 1 - p); omega) ?_ fun vals => ?_⟩
      · rw [show p + 1 - p = 0 + 1 by omega]
        refine ⟨⟨by omega, by omega⟩, fun _ => ?_, fun _ c2 => absurd ?_ c2⟩
        · rw [Int.toNat_natCast, s2.2.1]; omega
        · rw [Int.toNat_natCast]; exact s2.1
      · show evN M' vals (p + 1 - p) _ = chk (cw vals (1000 + (tp p - 97)))
        rw [show p + 1 - p = 0 + 1 by omega, evN_s, Int.toNat_natCast, s2.1, if_neg (by decide), if_pos rfl, s2.2.1]
        unfold cw
        rw [if_pos (by omega), if_pos (by omega), show 1000 + (tp p - 97) - 1000 = tp p - 97 by omega]
    · -- a number
      rw [if_neg c2, if_neg c] at q1 q2
      have e2' : mI M 2230 2 = (p : Int) := e2
      rw [e2']
      by_cases c4 : dg (tp p)
      · rw [if_pos c4] at q1
        have hb := nu_b hT c4
        refine n_digits hT hM (by omega) hp hTb hm 3 0 0 M rfl (Int.le_refl 0) (by rw [if_pos rfl]; exact Int.le_refl 0) h (fun M' k1 k2 k3 k4 => ?_) (fun M' x k1 => ?_)
        · rw [show p + 0 = p from rfl, nu_nuL c4] at k1 k2 k4
          refine q1 rfl M' (m + 1) _ k2 k3 (by omega) (by show m + 1 ≤ m + ((nu tp p).1 - p); omega) ?_ fun vals => ?_
          · show exB M' _ ((nu tp p).1 - p) _
            obtain ⟨z, hz⟩ : ∃ z, (nu tp p).1 - p = z + 1 := ⟨(nu tp p).1 - p - 1, by omega⟩
            rw [hz]
            refine ⟨⟨by omega, by omega⟩, fun c5 => ?_, fun c5 => ?_⟩
            · rw [Int.toNat_natCast, k4.1] at c5; omega
            · rw [Int.toNat_natCast, k4.1] at c5; exact absurd rfl c5
          · show evN M' vals ((nu tp p).1 - p) _ = chk (cw vals (nu tp p).2)
            obtain ⟨z, hz⟩ : ∃ z, (nu tp p).1 - p = z + 1 := ⟨(nu tp p).1 - p - 1, by omega⟩
            rw [hz, evN_s, Int.toNat_natCast, k4.1, if_pos rfl, k4.2.1]
            unfold cw
            rw [if_pos (by omega), if_neg (by omega)]
        · rw [show p + 0 = p from rfl, nu_nuL c4] at k1
          omega
      · rw [if_neg c4] at q2
        refine n_digits hT hM (by omega) hp hTb hm 3 0 0 M rfl (Int.le_refl 0) (by rw [if_pos rfl]; exact Int.le_refl 0) h (fun M' k1 => ?_) (fun M' x k1 k2 k3 => q2 (show (0 : Int) ≠ 1 by decide) M' p m x k2 k3)
        rw [show p + 0 = p from rfl, nuL_no c4] at k1
        exact absurd rfl k1
    · -- a minus
      rw [if_pos c2] at q1 q2
      refine n_unit hT hM hTb f (p + 1) m d M1 _ (by omega) (by omega) (by omega) (by omega) a (fun k1 M2 m2 x a2 g2 l1 l2 k2 k3 => ⟨a2.1, ?_⟩) (fun k1 M2 p2 m2 x a2 g2 => ⟨a2.1, ?_⟩)
      · obtain ⟨u1, u2, u3, u4, u5, u6⟩ := un_b hT f (p + 1) (by omega) (by omega)
        have u4 := u4 k1
        generalize hu : (un tp f (p + 1)).2.1 = p' at *
        refine n_writes a2 hM hTb (fun _ => by omega) (fun c => absurd c (by decide)) fun _ M3 a3 g3 s3 => ⟨a3.1, q1 k1 M3 (m2 + 1) _ a3 ((g.trans g2 (Nat.le_refl _)).trans g3 (by omega)) (by omega) (by omega) ?_ fun vals => ?_⟩
        · obtain ⟨k4, k5⟩ := exB_nd g3 (Nat.le_refl _) _ _ k2
          obtain ⟨z, hz⟩ : ∃ z, p' - p = z + 1 := ⟨p' - p - 1, by omega⟩
          have hz2 : p' - (p + 1) = z := by omega
          rw [hz2] at k4
          rw [hz]
          refine ⟨⟨by omega, by omega⟩, fun c5 => ?_, fun c5 c6 => ⟨?_, fun c7 => ?_⟩⟩
          · rw [Int.toNat_natCast, s3.1] at c5; omega
          · rw [Int.toNat_natCast, s3.2.1]
            exact (exB_mono (b' := T * 260 + (m2 + 1)) (by omega) 0 z k4).1
          · rw [Int.toNat_natCast, s3.1] at c7; exact absurd rfl c7
        · obtain ⟨k4, k5⟩ := exB_nd g3 (Nat.le_refl _) _ _ k2
          obtain ⟨z, hz⟩ : ∃ z, p' - p = z + 1 := ⟨p' - p - 1, by omega⟩
          have hz2 : p' - (p + 1) = z := by omega
          have k6 := (k5 vals).trans (k3 vals)
          rw [hz2] at k6
          show evN M3 vals (p' - p) _ = chk (cw vals (-1 - (un tp f (p + 1)).2.2))
          rw [hz, evN_s, Int.toNat_natCast, s3.1, if_neg (by decide), if_neg (by decide), if_pos rfl, s3.2.1, k6, cw_neg]
          exact chk_neg
      · exact n_writes a2 hM hTb (fun c => absurd (Int.natCast_nonneg _) c) (fun _ => ⟨a2.1, q2 k1 M2 p2 m2 _ a2 (g.trans g2 (Nat.le_refl _))⟩) (fun c => absurd (Int.natCast_nonneg _) c)
end RUNIT
