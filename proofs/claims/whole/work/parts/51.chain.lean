/-! what a way came through against whose child it is -/
/-- the parent's place k, within its bounds; all that was come through is k and what k came through; k is less deep -/
def CM (ids : Nat → Int) (cs : Nat → Nat → Bool) (dp : Nat → Int) (lo hi : Nat) (c : Nat → Bool) (par dep : Int) : Prop :=
  (par = -1 ∧ ∀ j, c j = false) ∨ ∃ k, lo ≤ k ∧ k < hi ∧ ids k = par ∧ dp k < dep ∧ ∀ j, c j = true ↔ (j = k ∨ cs k j = true)
def rmI {α : Type} (R : Nat) (f : Nat → α) : Nat → α := fun J => if J < R then f J else f (J + 1)
def rmC (R : Nat) (cs : Nat → Nat → Bool) : Nat → Nat → Bool := rmI R fun J => cWithout (cs J) R
theorem cWithout_false {c : Nat → Bool} {R : Nat} (h : ∀ j, c j = false) (j : Nat) : cWithout c R j = false := by
  unfold cWithout
  split <;> exact h _
/-- the R-th goes: whoever came by it came by its parent -/
theorem CM_rm {ids : Nat → Int} {cs : Nat → Nat → Bool} {dp : Nat → Int} {lo hi loR R n : Nat} {c : Nat → Bool} {par dep parR : Int} (hR : R < n) (hhi : hi ≤ n) (hinj : ∀ i j, i < n → j < n → ids i = ids j → i = j) (hid : ids R ≠ -1) (hlo : lo ≤ R → lo ≤ loR) (hlr : lo ≤ R ∨ hi ≤ R) (h : CM ids cs dp lo hi c par dep) (hr : CM ids cs dp loR R (cs R) parR (dp R)) :
    CM (rmI R ids) (rmC R cs) (rmI R dp) lo (if R < hi then hi - 1 else hi) (cWithout c R) (if par = ids R then parR else par) dep := by
  rcases h with ⟨h1, h2⟩ | ⟨k, k1, k2, k3, k4, k5⟩
  · exact Or.inl ⟨by rw [if_neg (by rw [h1]; exact fun q => hid q.symm)]; exact h1, cWithout_false h2⟩
  · by_cases ck : k = R
    · subst ck
      rw [if_pos k3.symm]
      rcases hr with ⟨r1, r2⟩ | ⟨k', a1, a2, a3, a4, a5⟩
      · refine Or.inl ⟨r1, fun j => ?_⟩
        have nt : ∀ j, j ≠ k → c j = false := fun j hj => Bool.not_eq_true _ ▸ fun q => by
          rcases (k5 j).mp q with q | q
          · exact hj q
          · rw [r2] at q; cases q
        unfold cWithout
        split
        · exact nt _ (by omega)
        · exact nt _ (by omega)
      · refine Or.inr ⟨k', by have := hlo k1; omega, ?_, ?_, ?_, fun j => ?_⟩
        · rw [if_pos k2]; omega
        · unfold rmI; rw [if_pos a2]; exact a3
        · unfold rmI; rw [if_pos a2]; omega
        · have e : rmC k cs k' = cWithout (cs k') k := if_pos a2
          rw [e]
          unfold cWithout
          by_cases cj : j < k
          · rw [if_pos cj, if_pos cj, k5]
            constructor
            · rintro (q | q)
              · omega
              · exact (a5 j).mp q
            · intro q; exact Or.inr ((a5 j).mpr q)
          · rw [if_neg cj, if_neg cj, k5]
            constructor
            · rintro (q | q)
              · omega
              · rcases (a5 _).mp q with q | q
                · omega
                · exact Or.inr q
            · rintro (q | q)
              · omega
              · exact Or.inr ((a5 _).mpr (Or.inr q))
    · have hne : par ≠ ids R := fun q => ck (hinj k R (by omega) hR (by rw [k3, q]))
      rw [if_neg hne]
      by_cases c2 : k < R
      · refine Or.inr ⟨k, k1, ?_, ?_, ?_, fun j => ?_⟩
        · split <;> omega
        · unfold rmI; rw [if_pos c2]; exact k3
        · unfold rmI; rw [if_pos c2]; exact k4
        · have e : rmC R cs k = cWithout (cs k) R := if_pos c2
          rw [e]
          unfold cWithout
          by_cases cj : j < R
          · rw [if_pos cj, if_pos cj, k5]
          · rw [if_neg cj, if_neg cj, k5]
            constructor
            · rintro (q | q)
              · omega
              · exact Or.inr q
            · rintro (q | q)
              · omega
              · exact Or.inr q
      · refine Or.inr ⟨k - 1, by omega, ?_, ?_, ?_, fun j => ?_⟩
        · rw [if_pos (by omega)]; omega
        · unfold rmI; rw [if_neg (by omega), show k - 1 + 1 = k by omega]; exact k3
        · unfold rmI; rw [if_neg (by omega), show k - 1 + 1 = k by omega]; exact k4
        · have e : rmC R cs (k - 1) = cWithout (cs k) R := by
            unfold rmC rmI
            rw [if_neg (by omega), show k - 1 + 1 = k by omega]
          rw [e]
          unfold cWithout
          by_cases cj : j < R
          · rw [if_pos cj, if_pos cj, k5]
            constructor
            · rintro (q | q)
              · omega
              · exact Or.inr q
            · rintro (q | q)
              · omega
              · exact Or.inr q
          · rw [if_neg cj, if_neg cj, k5]
            constructor
            · rintro (q | q)
              · exact Or.inl (by omega)
              · exact Or.inr q
            · rintro (q | q)
              · exact Or.inl (by omega)
              · exact Or.inr q
/-- all that was come through lies below hi, above lo, and is less deep -/
theorem CM_all {ids : Nat → Int} {cs : Nat → Nat → Bool} {dp : Nat → Int} {n : Nat} {lo : Nat → Nat} (hp : ∀ J, J < n → ∃ par, CM ids cs dp (lo J) J (cs J) par (dp J)) (hlo : ∀ J k, J < n → lo J ≤ k → k < J → lo k = lo J) : ∀ (hi : Nat) (l : Nat) (c : Nat → Bool) (par dep : Int), hi ≤ n → (∀ k, l ≤ k → k < hi → lo k = l) → CM ids cs dp l hi c par dep → ∀ j, c j = true → l ≤ j ∧ j < hi ∧ dp j < dep := by
  intro hi
  induction hi using Nat.strongRecOn with
  | ind hi ih =>
    intro l c par dep hn hl h j hj
    rcases h with ⟨h1, h2⟩ | ⟨k, k1, k2, k3, k4, k5⟩
    · rw [h2] at hj; cases hj
    · rcases (k5 j).mp hj with q | q
      · subst q; exact ⟨k1, k2, k4⟩
      · obtain ⟨par', h'⟩ := hp k (by omega)
        have e := hl k k1 k2
        rw [e] at h'
        have := ih k k2 l (cs k) par' (dp k) (by omega) (fun i a b => hl i a (by omega)) h' j q
        omega
/-- the youngest of what was come through is the parent -/
theorem CM_top {ids : Nat → Int} {cs : Nat → Nat → Bool} {dp : Nat → Int} {n : Nat} {lo : Nat → Nat} (hp : ∀ J, J < n → ∃ par, CM ids cs dp (lo J) J (cs J) par (dp J)) (hlo : ∀ J k, J < n → lo J ≤ k → k < J → lo k = lo J) {hi l k : Nat} {c : Nat → Bool} {par dep : Int} (hn : hi ≤ n) (hl : ∀ k, l ≤ k → k < hi → lo k = l) (h : CM ids cs dp l hi c par dep) (hk : c k = true) (hup : ∀ j, k < j → c j = false) : par = ids k ∧ CM ids cs dp l (k + 1) c par dep := by
  rcases h with ⟨h1, h2⟩ | ⟨k', k1, k2, k3, k4, k5⟩
  · rw [h2] at hk; cases hk
  · have e : k = k' := by
      rcases (k5 k).mp hk with q | q
      · exact q
      · obtain ⟨par', h'⟩ := hp k' (by omega)
        have e := hl k' k1 k2
        rw [e] at h'
        have := CM_all hp hlo k' l (cs k') par' (dp k') (by omega) (fun i a b => hl i a (by omega)) h' k q
        have h3 := hup k' (by omega)
        rw [(k5 k').mpr (Or.inl rfl)] at h3
        cases h3
    subst e
    exact ⟨k3.symm, Or.inr ⟨k, k1, by omega, k3, k4, k5⟩⟩
