/-! before the first call -/
section FIRST
variable {K : ZMem}
theorem tq_0 {a n : Nat} {f : Nat → Int} (h : ∀ k, f k = 0) : ∀ k, tq a n f k = 0 := fun k => by
  unfold tq
  split
  · exact h k
  · rfl
/-- the numbers of the class's cells are 0 -/
def Z0 (K : ZMem) : Prop := ∀ a j, 3 ≤ a → a ≤ 2229 → mI K a j = 0
theorem z0_FA {o : Nat} (h : ∀ a j, o ≤ a → a < o + 4 → mI K a j = 0) : FA (gF K o) :=
  ⟨fun k => by rw [show (gF K o).2.1 k = 0 from tq_0 (fun j => h _ j (by omega) (by omega)) k]; decide, fun k => by rw [show (gF K o).2.2.1 k = 0 from tq_0 (fun j => h _ j (by omega) (by omega)) k]; decide⟩
theorem z0_DI (h : Z0 K) : DI (gG K 8) :=
  ⟨fun k => by rw [show (gG K 8).1 6 k = 0 from tq_0 (fun j => h (8 + 1 + 6) j (by omega) (by omega)) k]; decide, fun k => by rw [show (gG K 8).1 5 k = 0 from tq_0 (fun j => h (8 + 1 + 5) j (by omega) (by omega)) k]; decide, fun k => by rw [show (gG K 8).1 2 k = 0 from tq_0 (fun j => h (8 + 1 + 2) j (by omega) (by omega)) k]; decide, fun k => by rw [show (gG K 8).1 1 k = 0 from tq_0 (fun j => h (8 + 1 + 1) j (by omega) (by omega)) k]; decide, z0_FA fun a j h1 h2 => h a j (by omega) (by omega), z0_FA fun a j h1 h2 => h a j (by omega) (by omega)⟩
theorem z0_wB (h : Z0 K) {o : Nat} (h3 : 3 ≤ o) (h4 : o + 4 ≤ 2230) : wB (gW K o) := by
  refine ⟨fun k => ?_, ?_, ?_, fun k => ?_⟩
  · rw [show (gW K o).2.1 k = 0 from tq_0 (fun j => h (o + 1) j (by omega) (by omega)) k]; decide
  · rw [show (gW K o).1 5 = 0 from tq_0 (a := 3) (n := 7) (fun j => h o j (by omega) (by omega)) 5]; decide
  · rw [show (gW K o).1 6 = 0 from tq_0 (a := 3) (n := 7) (fun j => h o j (by omega) (by omega)) 6]; decide
  · rw [show (gW K o).2.2.2.1 k = 0 from tq_0 (fun j => h (o + 3) j (by omega) (by omega)) k]; decide
theorem ps_ok {p : Nat} (hz : mI K p 1 = 0) (f : PsF K p) : PsOK K p := by
  refine ⟨by omega, by omega, fun i hi => ⟨i, hi, f.2 i hi⟩, fun i j hi hj e => ?_⟩
  rw [f.2 i hi, f.2 j hj] at e
  omega
theorem first_at (h : Z0 K) {o : Nat} (h3 : 3 ≤ o) (h4 : o + 427 ≤ 2230) (f : SrF K o) : At K K o (gG K (o + 1)) (gS K o) :=
  ⟨⟨rfl, rfl, rfl, fun _ _ _ => rfl⟩, ps_ok (h _ _ (by omega) (by omega)) f.2.1, ps_ok (h _ _ (by omega) (by omega)) f.2.2, rfl, rfl⟩
theorem first_sC (h : Z0 K) {o : Nat} (h3 : 3 ≤ o) (h4 : o + 427 ≤ 2230) : ∀ k, sC (gS K o) k = 0 := fun k => tq_0 (fun j => h o j h3 (by omega)) k
end FIRST
