/-! before the first call -/
section FIRST
variable {K : ZMem}
theorem tq_0 {a n : Nat} {f : Nat → Int} (h : ∀ k, f k = 0) : ∀ k, tq a n f k = 0 := fun k => by
  unfold tq
  split
  · exact h k
  · rfl
/-- the numbers of the class's cells are 0 -/
def Z0 (K : ZMem) : Prop := ∀ a j, 3 ≤ a → a ≤ 2229 → mI K a j = 0
theorem z0_FA {o : Nat} (h : ∀ a j, o ≤ a → a < o + 4 → mI K a j = 0) : FA (gF K o) :=
  ⟨fun k => by rw [show (gF K o).2.1 k = 0 from tq_0 (fun j => h _ j (by omega) (by omega)) k]; decide, fun k => by rw [show (gF K o).2.2.1 k = 0 from tq_0 (fun j => h _ j (by omega) (by omega)) k]; decide⟩
theorem z0_DI (h : Z0 K) : DI (gG K 8) :=
  ⟨fun k => by rw [show (gG K 8).1 6 k = 0 from tq_0 (fun j => h (8 + 1 + 6) j (by omega) (by omega)) k]; decide, fun k => by rw [show (gG K 8).1 5 k = 0 from tq_0 (fun j => h (8 + 1 + 5) j (by omega) (by omega)) k]; decide, fun k => by rw [show (gG K 8).1 2 k = 0 from tq_0 (fun j => h (8 + 1 + 2) j (by omega) (by omega)) k]; decide, fun k => by rw [show (gG K 8).1 1 k = 0 from tq_0 (fun j => h (8 + 1 + 1) j (by omega) (by omega)) k]; decide, z0_FA fun a j h1 h2 => h a j (by omega) (by omega), z0_FA fun a j h1 h2 => h a j (by omega) (by omega)⟩
theorem z0_wB (h : Z0 K) {o : Nat} (h3 : 3 ≤ o) (h4 : o + 4 ≤ 2230) : wB (gW K o) := by
  refine ⟨fun k => ?_, ?_, ?_, fun k => ?_⟩
  · rw [show (gW K o).2.1 k = 0 from tq_0 (fun j => h (o + 1) j (by omega) (by omega)) k]; decide
  · rw [show (gW K o).1 5 = 0 from tq_0 (a := 3) (n := 7) (fun j => h o j (by omega) (by omega)) 5]; decide
  · rw [show (gW K o).1 6 = 0 from tq_0 (a := 3) (n := 7) (fun j => h o j (by omega) (by omega)) 6]; decide
  · rw [show (gW K o).2.2.2.1 k = 0 from tq_0 (fun j => h (o + 3) j (by omega) (by omega)) k]; decide
theorem ps_ok {p : Nat} (hz : mI K p 1 = 0) (f : PsF K p) : PsOK K p := by
  refine ⟨by omega, by omega, fun i hi => ⟨i, hi, f.2 i hi⟩, fun i j hi hj e => ?_⟩
  rw [f.2 i hi, f.2 j hj] at e
  omega
theorem first_at (h : Z0 K) {o : Nat} (h3 : 3 ≤ o) (h4 : o + 427 ≤ 2230) (f : SrF K o) : At K K o (gG K (o + 1)) (gS K o) :=
  ⟨⟨rfl, rfl, rfl, fun _ _ _ => rfl⟩, ps_ok (h _ _ (by omega) (by omega)) f.2.1, ps_ok (h _ _ (by omega) (by omega)) f.2.2, rfl, rfl⟩
theorem first_sC (h : Z0 K) {o : Nat} (h3 : 3 ≤ o) (h4 : o + 427 ≤ 2230) : ∀ k, sC (gS K o) k = 0 := fun k => tq_0 (fun j => h o j h3 (by omega)) k
theorem first_LaS (h : Z0 K) (hr : ∀ j, mI K 2239 j = 0) {o s : Nat} (h3 : 3 ≤ o) (h4 : o + 427 ≤ 2230) {P : Pg} {T : Nat} {c : Int} : LaS K P (gS K o) (vT (mI K 2239) s) T c := by
  have c0 := first_sC h h3 h4
  have u : ∀ k, k < 17 → (vT (mI K 2239) s).1 k = 0 := fun k hk => by rw [vT_at hk]; exact hr _
  refine ⟨⟨⟨fun i => ?_, Or.inl (c0 10), Or.inl (c0 12)⟩, by rw [c0]; decide, by rw [u 14 (by decide)]; decide⟩, Or.inl ⟨u 0 (by decide), c0 7, ?_⟩⟩
  · show wB (if i < 7 then gW K (o + 397 + 4 * i) else w0)
    split
    · exact z0_wB h (by omega) (by omega)
    · exact ⟨fun _ => by show (-999 : Int) ≤ 0 ∧ (0 : Int) ≤ 999; decide, by show (0 : Int) ≤ 0 ∧ (0 : Int) ≤ 100000000; decide, by show (0 : Int) ≤ 0 ∧ (0 : Int) ≤ 100000000; decide, fun _ => by show (-10 : Int) ≤ 0 ∧ (0 : Int) ≤ 1000; decide⟩
  · exact h (o + 18) 1 (by omega) (by omega)
theorem first_LaR (h : Z0 K) (hr : ∀ j, mI K 2239 j = 0) (h7 : ∀ j, j < 4 → mI K 2237 j = -1) (h30 : ∀ j, mI K 2230 j = 0) (hs : ∀ k, k < 4 → SrF K (44 + 444 * k)) (ht : SrF K 1803) : LaR K K 0 := by
  refine ⟨⟨rfl, rfl, rfl, fun _ _ _ => rfl⟩, fun _ => 0, 0, 0, ⟨by omega, fun k hk => absurd hk (by omega), fun _ _ => rfl⟩, ⟨h 3 1 (by omega) (by omega), fun j hj => absurd hj (by omega)⟩, ⟨h30 1, fun j hj => absurd hj (by omega)⟩, z0_DI h, ⟨h30 6, by omega⟩, fun k hk => Or.inl ⟨h7 k hk, h _ _ (by omega) (by omega)⟩, fun k hk => ⟨_, _, first_at h (by omega) (by omega) (hs k hk), first_LaS h hr (by omega) (by omega)⟩, ⟨_, _, first_at h (by omega) (by omega) ht, ?_⟩⟩
  rw [first_sC h (by omega) (by omega)]
  decide
end FIRST
