/-! the reference: what an E's nodes work out to; costs, tests, choices -/
theorem sI_sI {M : ZMem} {o k : Nat} {x y : Int} : sI (sI M o k x) o k y = sI M o k y := by
  show (_, _) = (_, _)
  congr 1
  funext a j
  show (if a = o ∧ j = k then y else if a = o ∧ j = k then x else M.1 a j) = if a = o ∧ j = k then y else M.1 a j
  by_cases h : a = o ∧ j = k
  · rw [if_pos h, if_pos h]
  · rw [if_neg h, if_neg h, if_neg h]
def chk (v : Int) : Option Int := if -999 ≤ v ∧ v ≤ 999 then some v else none
/-- a node's value; the nodes: 2232 op, 2233 a, 2234 b, 2235 c, 2236 next -/
def evN (M : ZMem) (vals : Nat → Int) : Nat → Int → Option Int
  | 0, _ => none
  | n + 1, x =>
    if mI M 2232 x.toNat = 1 then chk (mI M 2233 x.toNat)
    else if mI M 2232 x.toNat = 2 then chk (vals (mI M 2233 x.toNat).toNat)
    else if mI M 2232 x.toNat = 6 then (evN M vals n (mI M 2233 x.toNat)).bind fun u => chk (-u)
    else (evN M vals n (mI M 2233 x.toNat)).bind fun u => (evN M vals n (mI M 2234 x.toNat)).bind fun v => chk (if mI M 2232 x.toNat = 3 then u + v else if mI M 2232 x.toNat = 4 then u - v else u * v)
/-- it is an E's node -/
def exN (M : ZMem) : Nat → Int → Prop
  | 0, _ => False
  | n + 1, x => (0 ≤ x ∧ x < 70200) ∧
    ((mI M 2232 x.toNat = 2 → 0 ≤ mI M 2233 x.toNat ∧ mI M 2233 x.toNat < 8) ∧
    (mI M 2232 x.toNat ≠ 1 → mI M 2232 x.toNat ≠ 2 → exN M n (mI M 2233 x.toNat) ∧ (mI M 2232 x.toNat ≠ 6 → exN M n (mI M 2234 x.toNat))))
theorem chk_b {v u : Int} (h : chk v = some u) : -999 ≤ u ∧ u ≤ 999 := by
  unfold chk at h
  by_cases c : -999 ≤ v ∧ v ≤ 999
  · rw [if_pos c] at h; cases h; exact c
  · rw [if_neg c] at h; cases h
theorem evN_b {M : ZMem} {vals : Nat → Int} {n : Nat} {x u : Int} (h : evN M vals n x = some u) : -999 ≤ u ∧ u ≤ 999 := by
  cases n with
  | zero => cases h
  | succ n =>
    rw [evN] at h
    split at h
    · exact chk_b h
    · split at h
      · exact chk_b h
      · split at h
        · cases e : evN M vals n (mI M 2233 x.toNat) with
          | none => rw [e] at h; cases h
          | some a => rw [e] at h; exact chk_b h
        · cases e : evN M vals n (mI M 2233 x.toNat) with
          | none => rw [e] at h; cases h
          | some a =>
            rw [e] at h
            cases e2 : evN M vals n (mI M 2234 x.toNat) with
            | none => rw [e2] at h; cases h
            | some c => rw [e2] at h; exact chk_b h
def ndEq (M M' : ZMem) : Prop := ∀ a, 2231 ≤ a → a ≤ 2238 → ∀ j, mI M' a j = mI M a j
theorem ndEq.refl {M : ZMem} : ndEq M M := fun _ _ _ _ => rfl
theorem ndEq.trans {M M1 M2 : ZMem} (h : ndEq M M1) (g : ndEq M1 M2) : ndEq M M2 := fun a h1 h2 j => (g a h1 h2 j).trans (h a h1 h2 j)
theorem ndEq.sI {M M1 : ZMem} (h : ndEq M M1) {o i : Nat} {x : Int} (ho : 2239 ≤ o ∨ o = 2230) : ndEq M (sI M1 o i x) := fun a h1 h2 j => by rw [r_n _ _ _ _ _ _ ho ⟨h1, h2⟩]; exact h a h1 h2 j
theorem evN_nd {M M' : ZMem} {vals : Nat → Int} (h : ndEq M M') : ∀ (n : Nat) (x : Int), evN M' vals n x = evN M vals n x
  | 0, _ => rfl
  | n + 1, x => by
    have ih := evN_nd (vals := vals) h n
    rw [evN, evN, h 2232 (by omega) (by omega), h 2233 (by omega) (by omega), h 2234 (by omega) (by omega), ih, ih]
theorem exN_nd {M M' : ZMem} (h : ndEq M M') : ∀ (n : Nat) (x : Int), exN M' n x ↔ exN M n x
  | 0, _ => Iff.rfl
  | n + 1, x => by
    have ih := exN_nd h n
    rw [exN, exN, h 2232 (by omega) (by omega), h 2233 (by omega) (by omega), h 2234 (by omega) (by omega), ih, ih]
/-- the end of a working: the flag and the number, from what the parts gave -/
def wfl (f : Int) (o : Option Int) : Int := if f = 1 ∧ o.isSome = true then 1 else 0
def wvl (f : Int) (o : Option Int) : Int := if f = 1 then o.getD 0 else 0
section WORKS
variable {d : Nat} {K M0 M M' : ZMem} {s lv : Nat} {b : Int} {U : Tr}
theorem works_end {v f : Int} {Q : Int → ZMem → Prop} {M2 : ZMem} (hf : f = 0 ∨ f = 1) (hfl : mI M2 2230 19 = f) (q : Q (wvl f (chk v)) (sI M2 2230 19 (wfl f (chk v)))) :
    (((mI M2 2230 19) = 0 → (((mI (sI M2 2230 19 0) 2230 19) = 0 → (Q 0 (sI M2 2230 19 0))) ∧ (¬ ((mI (sI M2 2230 19 0) 2230 19) = 0) → (Q v (sI M2 2230 19 0))))) ∧ (¬ ((mI M2 2230 19) = 0) → (((-999) ≤ v ∧ v ≤ 999 → (((mI (sI M2 2230 19 1) 2230 19) = 0 → (Q 0 (sI M2 2230 19 1))) ∧ (¬ ((mI (sI M2 2230 19 1) 2230 19) = 0) → (Q v (sI M2 2230 19 1))))) ∧ (¬ ((-999) ≤ v ∧ v ≤ 999) → (((mI (sI M2 2230 19 0) 2230 19) = 0 → (Q 0 (sI M2 2230 19 0))) ∧ (¬ ((mI (sI M2 2230 19 0) 2230 19) = 0) → (Q v (sI M2 2230 19 0)))))))) := by
  rw [hfl]
  simp only [mI_sI_eq]
  unfold wvl wfl chk at q
  refine ⟨fun c => ⟨fun _ => ?_, fun c2 => absurd trivial c2⟩, fun c => ⟨fun c2 => ⟨fun c3 => absurd c3 (by decide), fun _ => ?_⟩, fun c2 => ⟨fun _ => ?_, fun c3 => absurd trivial c3⟩⟩⟩
  · rw [if_neg (by omega), if_neg (by omega)] at q; exact q
  · rw [if_pos c2, if_pos (by omega), if_pos ⟨by omega, rfl⟩] at q; exact q
  · rw [if_neg c2, if_pos (by omega), if_neg (fun q => by cases q.2)] at q; exact q
theorem wfl_01 {f : Int} {o : Option Int} : wfl f o = 0 ∨ wfl f o = 1 := by unfold wfl; split <;> simp
theorem wvl_b {M : ZMem} {vals : Nat → Int} {f : Int} {n : Nat} {x : Int} : -999 ≤ wvl f (evN M vals n x) ∧ wvl f (evN M vals n x) ≤ 999 := by
  unfold wvl
  split
  · cases e : evN M vals n x with
    | none => exact ⟨by decide, by decide⟩
    | some u => exact evN_b e
  · exact ⟨by decide, by decide⟩
theorem wfl_0 (o : Option Int) : wfl 0 o = 0 := if_neg (fun q => by have := q.1; omega)
theorem wvl_0 (o : Option Int) : wvl 0 o = 0 := if_neg (by omega)
theorem wfl_n (f : Int) : wfl f none = 0 := if_neg (fun q => by cases q.2)
theorem wvl_n (f : Int) : wvl f none = 0 := by unfold wvl; split <;> rfl
theorem wfl_s (u : Int) : wfl 1 (some u) = 1 := rfl
theorem wvl_s (u : Int) : wvl 1 (some u) = u := rfl
theorem r_works {base : Int} {vals : Nat → Int} (hM : ModelAt K 2230) : ∀ (n : Nat) (d : Nat) (x f : Int) (M : ZMem) (Q : Int → ZMem → Prop), KW K M → n ≤ d → exN M n x → (f = 0 ∨ f = 1) → mI M 2230 19 = f → (∀ k : Nat, k < 8 → 0 ≤ base + k ∧ base + k < 19245 ∧ mI M 2239 (base + k).toNat = vals k) → Q (wvl f (evN M vals n x)) (sI M 2230 19 (wfl f (evN M vals n x))) → Ci d q10_works [zr 2230, zi base, zi x] M Q
  | 0, d, x, f, M, Q, hK, hd, he, hf, hfl, hv, q => absurd he (by intro q; exact q)
  | n + 1, d, x, f, M, Q, hK, hd, he, hf, hfl, hv, q => by
    obtain ⟨d, rfl⟩ : ∃ e, d = e + 1 := ⟨d - 1, by omega⟩
    obtain ⟨hx, he2, he3⟩ := he
    have hb0 := hv 0 (by omega)
    rw [evN] at q
    refine B10_works base x hK hM (pe2 hx.1 (pe3 hx.2 ⟨fun c => ?_, fun c => ?_, fun c => ?_, fun c => ?_⟩))
    · rw [if_pos c] at q
      exact pe2 hx.1 (pe3 hx.2 (works_end hf hfl q))
    · have h8 := he2 c
      obtain ⟨v1, v2, v3⟩ := hv (mI M 2233 x.toNat).toNat (by omega)
      have ev : (((mI M 2233 x.toNat).toNat : Nat) : Int) = mI M 2233 x.toNat := by omega
      rw [ev] at v1 v2 v3
      rw [if_neg (by omega), if_pos c, ← v3] at q
      exact pe2 hx.1 (pe3 hx.2 (pe1 (by omega) (pe2 (by omega) (pe3 (by omega) (works_end hf hfl q)))))
    · have h3 := he3 (by omega) (by omega)
      rw [if_neg (by omega), if_neg (by omega), if_pos c] at q
      have yb := wvl_b (M := M) (vals := vals) (f := f) (n := n) (x := mI M 2233 x.toNat)
      refine pe2 hx.1 (pe3 hx.2 (r_works hM n d (mI M 2233 x.toNat) f M _ hK (by omega) h3.1 hf hfl hv ⟨hK.sI _ _ _, pe1 (by omega) (works_end wfl_01 mI_sI_eq ?_)⟩))
      rw [sI_sI]
      cases e : evN M vals n (mI M 2233 x.toNat) with
      | none =>
        rw [e] at q
        have q : Q (wvl f none) (sI M 2230 19 (wfl f none)) := q
        rw [wfl_n, wvl_n] at q
        rw [wfl_n, wvl_n, wfl_0, wvl_0]
        exact q
      | some u =>
        rw [e] at q
        have q : Q (wvl f (chk (-u))) (sI M 2230 19 (wfl f (chk (-u)))) := q
        rcases hf with h0 | h0
        · subst h0
          rw [wfl_0, wvl_0] at q
          rw [wfl_0, wvl_0]
          try rw [wfl_0]
          exact q
        · subst h0
          rw [wfl_s, wvl_s]
          exact q
    · have h3 := he3 c.1 c.2.1
      rw [if_neg c.1, if_neg c.2.1, if_neg c.2.2] at q
      have yb := wvl_b (M := M) (vals := vals) (f := f) (n := n) (x := mI M 2233 x.toNat)
      refine pe2 hx.1 (pe3 hx.2 (r_works hM n d (mI M 2233 x.toNat) f M _ hK (by omega) h3.1 hf hfl hv ?_))
      have nd : ndEq M (sI M 2230 19 (wfl f (evN M vals n (mI M 2233 x.toNat)))) := ndEq.refl.sI (Or.inr rfl)
      have kM1 : KW K (sI M 2230 19 (wfl f (evN M vals n (mI M 2233 x.toNat)))) := hK.sI _ _ _
      have e34 : mI (sI M 2230 19 (wfl f (evN M vals n (mI M 2233 x.toNat)))) 2234 x.toNat = mI M 2234 x.toNat := nd 2234 (by omega) (by omega) _
      rw [e34]
      have zb := wvl_b (M := M) (vals := vals) (f := wfl f (evN M vals n (mI M 2233 x.toNat))) (n := n) (x := mI M 2234 x.toNat)
      refine ⟨kM1, pe2 hx.1 (pe3 hx.2 (r_works hM n d (mI M 2234 x.toNat) _ _ _ kM1 (by omega) ((exN_nd nd n _).mpr (h3.2 c.2.2)) wfl_01 mI_sI_eq (fun k hk => by rw [r_rw]; exact hv k hk) ?_))⟩
      rw [evN_nd nd, sI_sI]
      have e32 : mI (sI M 2230 19 (wfl (wfl f (evN M vals n (mI M 2233 x.toNat))) (evN M vals n (mI M 2234 x.toNat)))) 2232 x.toNat = mI M 2232 x.toNat := r_n _ _ _ _ _ _ (Or.inr rfl) ⟨by omega, by omega⟩
      rw [e32]
      have fin : Q (wvl (wfl (wfl f (evN M vals n (mI M 2233 x.toNat))) (evN M vals n (mI M 2234 x.toNat))) (chk (if mI M 2232 x.toNat = 3 then wvl f (evN M vals n (mI M 2233 x.toNat)) + wvl (wfl f (evN M vals n (mI M 2233 x.toNat))) (evN M vals n (mI M 2234 x.toNat)) else if mI M 2232 x.toNat = 4 then wvl f (evN M vals n (mI M 2233 x.toNat)) - wvl (wfl f (evN M vals n (mI M 2233 x.toNat))) (evN M vals n (mI M 2234 x.toNat)) else wvl f (evN M vals n (mI M 2233 x.toNat)) * wvl (wfl f (evN M vals n (mI M 2233 x.toNat))) (evN M vals n (mI M 2234 x.toNat))))) (sI M 2230 19 (wfl (wfl (wfl f (evN M vals n (mI M 2233 x.toNat))) (evN M vals n (mI M 2234 x.toNat))) (chk (if mI M 2232 x.toNat = 3 then wvl f (evN M vals n (mI M 2233 x.toNat)) + wvl (wfl f (evN M vals n (mI M 2233 x.toNat))) (evN M vals n (mI M 2234 x.toNat)) else if mI M 2232 x.toNat = 4 then wvl f (evN M vals n (mI M 2233 x.toNat)) - wvl (wfl f (evN M vals n (mI M 2233 x.toNat))) (evN M vals n (mI M 2234 x.toNat)) else wvl f (evN M vals n (mI M 2233 x.toNat)) * wvl (wfl f (evN M vals n (mI M 2233 x.toNat))) (evN M vals n (mI M 2234 x.toNat)))))) := by
        cases ea : evN M vals n (mI M 2233 x.toNat) with
        | none =>
          rw [ea] at q
          have q : Q (wvl f none) (sI M 2230 19 (wfl f none)) := q
          rw [wfl_n, wvl_n] at q
          rw [wfl_n, wfl_0, wfl_0, wvl_0]
          exact q
        | some u =>
          rw [ea] at q
          cases eb : evN M vals n (mI M 2234 x.toNat) with
          | none =>
            rw [eb] at q
            have q : Q (wvl f none) (sI M 2230 19 (wfl f none)) := q
            rw [wfl_n, wvl_n] at q
            rw [wfl_n, wfl_0, wvl_0]
            exact q
          | some w =>
            rw [eb] at q
            rcases hf with h0 | h0
            · subst h0
              rw [wfl_0, wfl_0, wfl_0, wvl_0]
              rw [wfl_0, wvl_0] at q
              exact q
            · subst h0
              rw [wfl_s, wvl_s, wfl_s, wvl_s]
              exact q
      have zm := mulB (a := wvl f (evN M vals n (mI M 2233 x.toNat))) (b := wvl (wfl f (evN M vals n (mI M 2233 x.toNat))) (evN M vals n (mI M 2234 x.toNat))) yb (by omega)
      refine ⟨hK.sI _ _ _, pe2 hx.1 (pe3 hx.2 ⟨fun c1 => pe2 hx.1 (pe3 hx.2 ⟨fun c2 => ?_, fun c2 => ?_⟩), fun c1 => ?_⟩)⟩
      · refine pe1 (by omega) (works_end wfl_01 mI_sI_eq ?_)
        rw [if_neg c1, if_neg c2] at fin
        rw [sI_sI]; exact fin
      · refine pe1 (by omega) (works_end wfl_01 mI_sI_eq ?_)
        rw [if_neg c1, if_pos (Decidable.not_not.mp c2)] at fin
        rw [sI_sI]; exact fin
      · refine pe1 (by omega) (works_end wfl_01 mI_sI_eq ?_)
        rw [if_pos (Decidable.not_not.mp c1)] at fin
        rw [sI_sI]; exact fin
end WORKS
