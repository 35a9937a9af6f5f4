/-! the runs on both sides -/
def Re (P : Pg) (σ : Int → Int) (root price : Int) (D : Int → Int) (x : Int) (S : Sr) (U : Tr) : Prop :=
  DB D ∧ (x ≤ 2 → RS P σ root price D S U (sC S 13) (sT S 2)) ∧ (2 < x → RS P σ root price D (uC S 12 0) U (sC S 13) (sT S 2))
def RI (P : Pg) (σ : Int → Int) (root price : Int) (S : Sr) : Prop := ∃ U D, DB D ∧ RS P σ root price D S U (sC S 13) (sT S 2)
def GQ (K M0 : ZMem) (P : Pg) (σ : Int → Int) (root price : Int) (e s : Nat) (S : Sr) (x : Int) (S' : Sr) : Prop :=
  ∀ (U : Tr) (D : Int → Int), DB D → RS P σ root price D S U (sC S 13) (sT S 2) → ∀ (d : Nat) (M : ZMem) (Q : Int → ZMem → Prop), e + 9 ≤ d → RM K M0 M s (cur S) (sC S 13) U → (∀ M' U' D', RM K M0 M' s (cur S') (sC S' 13) U' → Re P σ root price D' x S' U' → Q x M') → Xi (d + 1) q10_goes 2 [some (zr 2230), some (zi 0)] [] M Q
def AQ (K M0 : ZMem) (P : Pg) (σ : Int → Int) (root price : Int) (e s : Nat) (S : Sr) (x : Int) (S' : Sr) : Prop :=
  ∀ (U : Tr) (D : Int → Int), DB D → RS P σ root price D S U (sC S 13) (sT S 2) → ∀ (d : Nat) (M : ZMem) (l2 : Int) (Q : Int → ZMem → Prop), 0 ≤ l2 → l2 ≤ 60 → e + 9 ≤ d → RM K M0 M s (cur S) (sC S 13) U → (∀ M' U' D', RM K M0 M' s (cur S') (sC S' 13) U' → Re P σ root price D' x S' U' → Q (U'.1 15 - l2) M') → Xi (d + 1) q10_goes 2 [some (zr 2230), some (zi 0)] [] M (fun y M5 => KW K M5 ∧ Xi (d + 1 + 1) q10_goesAll 20 [some (zr 2230), none, some (zi l2), some (zi y)] [] M5 Q)
theorem runQ_mono {P : Pg} {till : Bool} {q q' : Int → Sr → Prop} (hq : ∀ x S, q x S → q' x S) : ∀ (n : Nat) (S : Sr), runQ P till n S q → runQ P till n S q'
  | 0, S, h => hq _ _ h
  | n + 1, S, h => fun j => by
    have h := h j
    split
    · rename_i c
      rw [if_pos c] at h
      exact runQ_mono hq n _ h
    · rename_i c
      rw [if_neg c] at h
      exact hq _ _ h
section RUNS
variable {K M0 : ZMem} {P : Pg} {σ : Int → Int} {root price : Int} {e s : Nat} {D : Int → Int} {S S' : Sr} {U U' : Tr} {b t : Int}
theorem RI.sb (h : RI P σ root price S) : SB P S ∧ (0 < sC S 13 → SB P (xSpend S)) := by
  obtain ⟨U, D, _, h⟩ := h
  exact ⟨h.sb, fun hb => (h.paid hb).sb⟩
theorem RI.mv (hPR : PR M0 P σ root price e) (hM : ModelAt K 2230) (h : RI P σ root price S) (j : Pt) (hx : (mv P S j).1 = 0 ∨ (mv P S j).1 = 1) : RI P σ root price (mv P S j).2 ∧ muN P (mv P S j).2 < muN P S := by
  obtain ⟨U, D, hDB, h⟩ := h
  obtain ⟨m1, D', ⟨U', m2⟩, _⟩ := mo (s := 0) hPR hM hDB h j
  exact ⟨⟨U', D', m2.1, m2.2.1 (by omega)⟩, m1 (by omega)⟩
theorem Re.u15 {x : Int} (h : Re P σ root price D x S U) : 0 ≤ U.1 15 ∧ U.1 15 ≤ 60 := by
  by_cases c : x ≤ 2
  · exact (h.2.1 c).bd.2.2.2.2.2.2.2.2.1
  · exact (h.2.2 (by omega)).bd.2.2.2.2.2.2.2.2.1
theorem go_run (hPR : PR M0 P σ root price e) (hM : ModelAt K 2230) : ∀ (n : Nat) (S : Sr), RI P σ root price S → muN P S < n → runQ P true n S (GQ K M0 P σ root price e s S)
  | 0, S, _, hn => absurd hn (by omega)
  | n + 1, S, hI, hn => fun j => by
    by_cases c : (mv P S j).1 = 0
    · rw [if_pos (Or.inl c)]
      obtain ⟨i1, i2⟩ := hI.mv hPR hM j (Or.inl c)
      refine runQ_mono (fun x S' hq => ?_) n _ (go_run hPR hM n (mv P S j).2 i1 (by omega))
      intro U D hDB h d M Q hd a fin
      obtain ⟨_, D1, _, k⟩ := mo (s := s) hPR hM hDB h j
      refine r_goes_step a.1 hM (k d M _ (by omega) a fun M1 U1 a1 r1 => ⟨a1.1, ?_⟩)
      rw [c]
      exact hq U1 D1 r1.1 (r1.2.1 (by omega)) d M1 Q hd a1 fin
    · rw [if_neg (fun q => by rcases q with q | q; exact c q; cases q.2)]
      intro U D hDB h d M Q hd a fin
      obtain ⟨_, D1, _, k⟩ := mo (s := s) hPR hM hDB h j
      refine r_goes_step a.1 hM (k d M _ (by omega) a fun M1 U1 a1 r1 => ⟨a1.1, ?_⟩)
      refine r_goes_end a1 hM c (fun c2 => fin M1 U1 D1 a1 ⟨r1.1, fun _ => r1.2.1 c2, fun q => by omega⟩) (fun c2 M2 a2 => fin M2 _ D1 a2 ⟨r1.1, fun q => by omega, fun _ => r1.2.2 c2⟩)
theorem all_run (hPR : PR M0 P σ root price e) (hM : ModelAt K 2230) : ∀ (n : Nat) (S : Sr), RI P σ root price S → muN P S < n → runQ P false n S (AQ K M0 P σ root price e s S)
  | 0, S, _, hn => absurd hn (by omega)
  | n + 1, S, hI, hn => fun j => by
    by_cases c : (mv P S j).1 = 0 ∨ (mv P S j).1 = 1
    · rw [if_pos (c.elim Or.inl fun q => Or.inr ⟨q, rfl⟩)]
      obtain ⟨i1, i2⟩ := hI.mv hPR hM j c
      refine runQ_mono (fun x S' hq => ?_) n _ (all_run hPR hM n (mv P S j).2 i1 (by omega))
      intro U D hDB h d M l2 Q hl0 hl1 hd a fin
      obtain ⟨_, D1, _, k⟩ := mo (s := s) hPR hM hDB h j
      refine r_goes_step a.1 hM (k d M _ (by omega) a fun M1 U1 a1 r1 => ⟨a1.1, ?_⟩)
      have g := hq U1 D1 r1.1 (r1.2.1 (by omega)) d M1 l2 Q hl0 hl1 hd a1 fin
      rcases c with c | c
      · rw [c]; exact g
      · rw [c]
        refine r_goes_end a1 hM (by decide) (fun _ => ⟨a1.1, ?_⟩) (fun c2 => absurd c2 (by decide))
        exact B10_goesAll_20 l2 1 a1.1 hM ⟨fun q => absurd rfl q, fun _ => B10_goes a1.1 hM g⟩
    · rw [if_neg (fun q => c (q.elim Or.inl fun q => Or.inr q.1))]
      intro U D hDB h d M l2 Q hl0 hl1 hd a fin
      obtain ⟨_, D1, _, k⟩ := mo (s := s) hPR hM hDB h j
      refine r_goes_step a.1 hM (k d M _ (by omega) a fun M1 U1 a1 r1 => ⟨a1.1, ?_⟩)
      have stop : ∀ M2 U2, RM K M0 M2 s (cur (mv P S j).2) (sC (mv P S j).2 13) U2 → Re P σ root price D1 (mv P S j).1 (mv P S j).2 U2 → KW K M2 ∧ Xi (d + 1 + 1) q10_goesAll 20 [some (zr 2230), none, some (zi l2), some (zi (mv P S j).1)] [] M2 Q := fun M2 U2 a2 r2 => by
        refine ⟨a2.1, ?_⟩
        have hs := a2.2.2.2.2.2.2.1
        have u15 := r2.u15
        have e15 := a2.sc (i := (s : Int) + 15) (k := 15) rfl (by omega)
        refine B10_goesAll_20 l2 _ a2.1 hM ⟨fun _ => ?_, fun q => absurd (Decidable.not_not.mp q) (fun q => c (Or.inr q))⟩
        rw [a2.2.1, e15]
        repeat (first | refine pe1 (by omega) ?_ | refine pe2 (by omega) ?_ | refine pe3 (by omega) ?_)
        exact fin M2 U2 D1 a2 r2
      refine r_goes_end a1 hM (fun q => c (Or.inl q)) (fun c2 => stop M1 U1 a1 ⟨r1.1, fun _ => r1.2.1 c2, fun q => by omega⟩) (fun c2 M2 a2 => stop M2 _ a2 ⟨r1.1, fun q => by omega, fun _ => r1.2.2 c2⟩)
end RUNS
