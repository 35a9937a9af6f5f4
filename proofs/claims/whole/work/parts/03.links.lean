/-- which fields hold references, which truth values -/
def zfT : List (List Bool) := [[true, false], [true, true, true, false, false], [true, true, false, false, false, false], [true, false], [true, true, true, true, true, true, true, true, true, true, false], [true, true, true, true, false, false, false, false], [true, true, true, true, true, true, true, false, false, false, false, false, false, false], [true, false], [true, true, true, false, false, false, false, false], [true, true, true, true, true], [true, false, false, false, false, false, false, false, true, true, true, true, true, true, true, true, false, false, false, false, true]]
def zbT : List (List Bool) := [[false, false], [false, false, false, false, false], [false, false, false, false, false, false], [false, false], [false, false, false, false, false, false, false, false, false, false, false], [false, false, false, false, false, false, true, true], [false, false, false, false, false, false, false, false, false, false, true, false, true, false], [false, false], [false, false, false, false, false, false, false, false], [false, false, false, false, false], [false, false, false, false, false, false, false, false, false, false, false, false, false, false, false, false, false, false, false, true, false]]
def zfr (ci k : Nat) : Bool := (zfT.getD ci []).getD k false
def zfb (ci k : Nat) : Bool := (zbT.getD ci []).getD k false
def zNf (ci : Nat) : Nat := (zfT.getD ci []).length
/-- what is known of a class by its place in zCl -/
def zCF (ci : Nat) (C : String) (T : u_T) (N : Nat) (ty : Nat → FieldType) : Prop := zCl[ci]? = some (C, T, N) ∧ (∀ w ∈ u_ws C T N, w ∈ zTb) ∧ (∀ k, k < N → parseFieldDescriptor (T k).2.2.1 = some (ty k)) ∧ (∀ a, a < N → ∀ b, b < N → a ≠ b → (T a).2.1 ≠ (T b).2.1) ∧ N = zNf ci ∧ (∀ k, k < N → (zfr ci k = true ∧ ∀ a, narrow (ty k) (.ref a) = .ref a ∧ fits (ty k) (.ref a) = true ∧ defaultValue (ty k) = .null) ∨ (zfr ci k = false ∧ defaultValue (ty k) = .int 0 ∧ ∀ x : Int32, (zfb ci k = false ∨ x = 0 ∨ x = 1) → narrow (ty k) (.int x) = .int x ∧ fits (ty k) (.int x) = true))
def zFI (own : String) (idx ci k : Nat) : Prop := ∃ C T N ty, zCF ci C T N ty ∧ k < N ∧ (Cond.fieldLink own idx (T k).1 (T k).2.1 (T k).2.2.1 ∈ zTb ∨ ∃ host, Cond.fieldLinkNest own idx (T k).1 (T k).2.1 (T k).2.2.1 host ∈ lw_tbl)
/-- a field that is final is written by a method of its own class alone -/
def zFin (own : String) (ci k : Nat) : Prop := ∃ C T N ty, zCF ci C T N ty ∧ ((T k).2.2.2 = false ∨ ((T k).2.2.2 = true ∧ (T k).1 = own))
def zML (own : String) (idx : Nat) (y : MethodName) : Prop := Cond.methodLink own idx y ∈ zTb ∨ ∃ host, Cond.methodLinkNest own idx y host ∈ lw_tbl
theorem cf0 : zCF 0 RX0 TX0 2 tyX0 := ⟨rfl, inZ0, tyX0_ok, nmX0, rfl, fun k hk => by
  rcases (show k = 0 ∨ k = 1 by omega) with rfl | rfl
  · exact Or.inl ⟨rfl, fun a => ⟨rfl, rfl, rfl⟩⟩
  · exact Or.inr ⟨rfl, rfl, fun x _ => ⟨rfl, rfl⟩⟩
  ⟩
theorem cf1 : zCF 1 RX1 TX1 5 tyX1 := ⟨rfl, inZ1, tyX1_ok, nmX1, rfl, fun k hk => by
  rcases (show k = 0 ∨ k = 1 ∨ k = 2 ∨ k = 3 ∨ k = 4 by omega) with rfl | rfl | rfl | rfl | rfl
  · exact Or.inl ⟨rfl, fun a => ⟨rfl, rfl, rfl⟩⟩
  · exact Or.inl ⟨rfl, fun a => ⟨rfl, rfl, rfl⟩⟩
  · exact Or.inl ⟨rfl, fun a => ⟨rfl, rfl, rfl⟩⟩
  · exact Or.inr ⟨rfl, rfl, fun x _ => ⟨rfl, rfl⟩⟩
  · exact Or.inr ⟨rfl, rfl, fun x _ => ⟨rfl, rfl⟩⟩
  ⟩
theorem cf2 : zCF 2 RX2 TX2 6 tyX2 := ⟨rfl, inZ2, tyX2_ok, nmX2, rfl, fun k hk => by
  rcases (show k = 0 ∨ k = 1 ∨ k = 2 ∨ k = 3 ∨ k = 4 ∨ k = 5 by omega) with rfl | rfl | rfl | rfl | rfl | rfl
  · exact Or.inl ⟨rfl, fun a => ⟨rfl, rfl, rfl⟩⟩
  · exact Or.inl ⟨rfl, fun a => ⟨rfl, rfl, rfl⟩⟩
  · exact Or.inr ⟨rfl, rfl, fun x _ => ⟨rfl, rfl⟩⟩
  · exact Or.inr ⟨rfl, rfl, fun x _ => ⟨rfl, rfl⟩⟩
  · exact Or.inr ⟨rfl, rfl, fun x _ => ⟨rfl, rfl⟩⟩
  · exact Or.inr ⟨rfl, rfl, fun x _ => ⟨rfl, rfl⟩⟩
  ⟩
theorem cf3 : zCF 3 RX3 TX3 2 tyX3 := ⟨rfl, inZ3, tyX3_ok, nmX3, rfl, fun k hk => by
  rcases (show k = 0 ∨ k = 1 by omega) with rfl | rfl
  · exact Or.inl ⟨rfl, fun a => ⟨rfl, rfl, rfl⟩⟩
  · exact Or.inr ⟨rfl, rfl, fun x _ => ⟨rfl, rfl⟩⟩
  ⟩
theorem cf4 : zCF 4 RX4 TX4 11 tyX4 := ⟨rfl, inZ4, tyX4_ok, nmX4, rfl, fun k hk => by
  rcases (show k = 0 ∨ k = 1 ∨ k = 2 ∨ k = 3 ∨ k = 4 ∨ k = 5 ∨ k = 6 ∨ k = 7 ∨ k = 8 ∨ k = 9 ∨ k = 10 by omega) with rfl | rfl | rfl | rfl | rfl | rfl | rfl | rfl | rfl | rfl | rfl
  · exact Or.inl ⟨rfl, fun a => ⟨rfl, rfl, rfl⟩⟩
  · exact Or.inl ⟨rfl, fun a => ⟨rfl, rfl, rfl⟩⟩
  · exact Or.inl ⟨rfl, fun a => ⟨rfl, rfl, rfl⟩⟩
  · exact Or.inl ⟨rfl, fun a => ⟨rfl, rfl, rfl⟩⟩
  · exact Or.inl ⟨rfl, fun a => ⟨rfl, rfl, rfl⟩⟩
  · exact Or.inl ⟨rfl, fun a => ⟨rfl, rfl, rfl⟩⟩
  · exact Or.inl ⟨rfl, fun a => ⟨rfl, rfl, rfl⟩⟩
  · exact Or.inl ⟨rfl, fun a => ⟨rfl, rfl, rfl⟩⟩
  · exact Or.inl ⟨rfl, fun a => ⟨rfl, rfl, rfl⟩⟩
  · exact Or.inl ⟨rfl, fun a => ⟨rfl, rfl, rfl⟩⟩
  · exact Or.inr ⟨rfl, rfl, fun x _ => ⟨rfl, rfl⟩⟩
  ⟩
theorem cf5 : zCF 5 RX5 TX5 8 tyX5 := ⟨rfl, inZ5, tyX5_ok, nmX5, rfl, fun k hk => by
  rcases (show k = 0 ∨ k = 1 ∨ k = 2 ∨ k = 3 ∨ k = 4 ∨ k = 5 ∨ k = 6 ∨ k = 7 by omega) with rfl | rfl | rfl | rfl | rfl | rfl | rfl | rfl
  · exact Or.inl ⟨rfl, fun a => ⟨rfl, rfl, rfl⟩⟩
  · exact Or.inl ⟨rfl, fun a => ⟨rfl, rfl, rfl⟩⟩
  · exact Or.inl ⟨rfl, fun a => ⟨rfl, rfl, rfl⟩⟩
  · exact Or.inl ⟨rfl, fun a => ⟨rfl, rfl, rfl⟩⟩
  · exact Or.inr ⟨rfl, rfl, fun x _ => ⟨rfl, rfl⟩⟩
  · exact Or.inr ⟨rfl, rfl, fun x _ => ⟨rfl, rfl⟩⟩
  · exact Or.inr ⟨rfl, rfl, fun x hx => by rcases hx with h | rfl | rfl; · exact absurd h (by decide)
                                           · exact ⟨by decide, by decide⟩
                                           · exact ⟨by decide, by decide⟩⟩
  · exact Or.inr ⟨rfl, rfl, fun x hx => by rcases hx with h | rfl | rfl; · exact absurd h (by decide)
                                           · exact ⟨by decide, by decide⟩
                                           · exact ⟨by decide, by decide⟩⟩
  ⟩
theorem cf6 : zCF 6 RX6 TX6 14 tyX6 := ⟨rfl, inZ6, tyX6_ok, nmX6, rfl, fun k hk => by
  rcases (show k = 0 ∨ k = 1 ∨ k = 2 ∨ k = 3 ∨ k = 4 ∨ k = 5 ∨ k = 6 ∨ k = 7 ∨ k = 8 ∨ k = 9 ∨ k = 10 ∨ k = 11 ∨ k = 12 ∨ k = 13 by omega) with rfl | rfl | rfl | rfl | rfl | rfl | rfl | rfl | rfl | rfl | rfl | rfl | rfl | rfl
  · exact Or.inl ⟨rfl, fun a => ⟨rfl, rfl, rfl⟩⟩
  · exact Or.inl ⟨rfl, fun a => ⟨rfl, rfl, rfl⟩⟩
  · exact Or.inl ⟨rfl, fun a => ⟨rfl, rfl, rfl⟩⟩
  · exact Or.inl ⟨rfl, fun a => ⟨rfl, rfl, rfl⟩⟩
  · exact Or.inl ⟨rfl, fun a => ⟨rfl, rfl, rfl⟩⟩
  · exact Or.inl ⟨rfl, fun a => ⟨rfl, rfl, rfl⟩⟩
  · exact Or.inl ⟨rfl, fun a => ⟨rfl, rfl, rfl⟩⟩
  · exact Or.inr ⟨rfl, rfl, fun x _ => ⟨rfl, rfl⟩⟩
  · exact Or.inr ⟨rfl, rfl, fun x _ => ⟨rfl, rfl⟩⟩
  · exact Or.inr ⟨rfl, rfl, fun x _ => ⟨rfl, rfl⟩⟩
  · exact Or.inr ⟨rfl, rfl, fun x hx => by rcases hx with h | rfl | rfl; · exact absurd h (by decide)
                                           · exact ⟨by decide, by decide⟩
                                           · exact ⟨by decide, by decide⟩⟩
  · exact Or.inr ⟨rfl, rfl, fun x _ => ⟨rfl, rfl⟩⟩
  · exact Or.inr ⟨rfl, rfl, fun x hx => by rcases hx with h | rfl | rfl; · exact absurd h (by decide)
                                           · exact ⟨by decide, by decide⟩
                                           · exact ⟨by decide, by decide⟩⟩
  · exact Or.inr ⟨rfl, rfl, fun x _ => ⟨rfl, rfl⟩⟩
  ⟩
theorem cf7 : zCF 7 RX7 TX7 2 tyX7 := ⟨rfl, inZ7, tyX7_ok, nmX7, rfl, fun k hk => by
  rcases (show k = 0 ∨ k = 1 by omega) with rfl | rfl
  · exact Or.inl ⟨rfl, fun a => ⟨rfl, rfl, rfl⟩⟩
  · exact Or.inr ⟨rfl, rfl, fun x _ => ⟨rfl, rfl⟩⟩
  ⟩
theorem cf8 : zCF 8 RX8 TX8 8 tyX8 := ⟨rfl, inZ8, tyX8_ok, nmX8, rfl, fun k hk => by
  rcases (show k = 0 ∨ k = 1 ∨ k = 2 ∨ k = 3 ∨ k = 4 ∨ k = 5 ∨ k = 6 ∨ k = 7 by omega) with rfl | rfl | rfl | rfl | rfl | rfl | rfl | rfl
  · exact Or.inl ⟨rfl, fun a => ⟨rfl, rfl, rfl⟩⟩
  · exact Or.inl ⟨rfl, fun a => ⟨rfl, rfl, rfl⟩⟩
  · exact Or.inl ⟨rfl, fun a => ⟨rfl, rfl, rfl⟩⟩
  · exact Or.inr ⟨rfl, rfl, fun x _ => ⟨rfl, rfl⟩⟩
  · exact Or.inr ⟨rfl, rfl, fun x _ => ⟨rfl, rfl⟩⟩
  · exact Or.inr ⟨rfl, rfl, fun x _ => ⟨rfl, rfl⟩⟩
  · exact Or.inr ⟨rfl, rfl, fun x _ => ⟨rfl, rfl⟩⟩
  · exact Or.inr ⟨rfl, rfl, fun x _ => ⟨rfl, rfl⟩⟩
  ⟩
theorem cf9 : zCF 9 RX9 TX9 5 tyX9 := ⟨rfl, inZ9, tyX9_ok, nmX9, rfl, fun k hk => by
  rcases (show k = 0 ∨ k = 1 ∨ k = 2 ∨ k = 3 ∨ k = 4 by omega) with rfl | rfl | rfl | rfl | rfl
  · exact Or.inl ⟨rfl, fun a => ⟨rfl, rfl, rfl⟩⟩
  · exact Or.inl ⟨rfl, fun a => ⟨rfl, rfl, rfl⟩⟩
  · exact Or.inl ⟨rfl, fun a => ⟨rfl, rfl, rfl⟩⟩
  · exact Or.inl ⟨rfl, fun a => ⟨rfl, rfl, rfl⟩⟩
  · exact Or.inl ⟨rfl, fun a => ⟨rfl, rfl, rfl⟩⟩
  ⟩
theorem cf10 : zCF 10 RX10 TX10 21 tyX10 := ⟨rfl, inZ10, tyX10_ok, nmX10, rfl, fun k hk => by
  rcases (show k = 0 ∨ k = 1 ∨ k = 2 ∨ k = 3 ∨ k = 4 ∨ k = 5 ∨ k = 6 ∨ k = 7 ∨ k = 8 ∨ k = 9 ∨ k = 10 ∨ k = 11 ∨ k = 12 ∨ k = 13 ∨ k = 14 ∨ k = 15 ∨ k = 16 ∨ k = 17 ∨ k = 18 ∨ k = 19 ∨ k = 20 by omega) with rfl | rfl | rfl | rfl | rfl | rfl | rfl | rfl | rfl | rfl | rfl | rfl | rfl | rfl | rfl | rfl | rfl | rfl | rfl | rfl | rfl
  · exact Or.inl ⟨rfl, fun a => ⟨rfl, rfl, rfl⟩⟩
  · exact Or.inr ⟨rfl, rfl, fun x _ => ⟨rfl, rfl⟩⟩
  · exact Or.inr ⟨rfl, rfl, fun x _ => ⟨rfl, rfl⟩⟩
  · exact Or.inr ⟨rfl, rfl, fun x _ => ⟨rfl, rfl⟩⟩
  · exact Or.inr ⟨rfl, rfl, fun x _ => ⟨rfl, rfl⟩⟩
  · exact Or.inr ⟨rfl, rfl, fun x _ => ⟨rfl, rfl⟩⟩
  · exact Or.inr ⟨rfl, rfl, fun x _ => ⟨rfl, rfl⟩⟩
  · exact Or.inr ⟨rfl, rfl, fun x _ => ⟨rfl, rfl⟩⟩
  · exact Or.inl ⟨rfl, fun a => ⟨rfl, rfl, rfl⟩⟩
  · exact Or.inl ⟨rfl, fun a => ⟨rfl, rfl, rfl⟩⟩
  · exact Or.inl ⟨rfl, fun a => ⟨rfl, rfl, rfl⟩⟩
  · exact Or.inl ⟨rfl, fun a => ⟨rfl, rfl, rfl⟩⟩
  · exact Or.inl ⟨rfl, fun a => ⟨rfl, rfl, rfl⟩⟩
  · exact Or.inl ⟨rfl, fun a => ⟨rfl, rfl, rfl⟩⟩
  · exact Or.inl ⟨rfl, fun a => ⟨rfl, rfl, rfl⟩⟩
  · exact Or.inl ⟨rfl, fun a => ⟨rfl, rfl, rfl⟩⟩
  · exact Or.inr ⟨rfl, rfl, fun x _ => ⟨rfl, rfl⟩⟩
  · exact Or.inr ⟨rfl, rfl, fun x _ => ⟨rfl, rfl⟩⟩
  · exact Or.inr ⟨rfl, rfl, fun x _ => ⟨rfl, rfl⟩⟩
  · exact Or.inr ⟨rfl, rfl, fun x hx => by rcases hx with h | rfl | rfl; · exact absurd h (by decide)
                                           · exact ⟨by decide, by decide⟩
                                           · exact ⟨by decide, by decide⟩⟩
  · exact Or.inl ⟨rfl, fun a => ⟨rfl, rfl, rfl⟩⟩
  ⟩
def RL : String := "TrailSearchLaw"
theorem lcL_7 : Cond.classLink RL 7 RX9 ∈ zTb := z_in 111 (by decide +kernel) rfl
theorem lmL_9 : zML RL 9 yX9_init := Or.inl (z_in 113 (by decide +kernel) rfl)
theorem lc9_7 : Cond.classLink RX9 7 RX7 ∈ zTb := z_in 119 (by decide +kernel) rfl
theorem lm9_9 : zML RX9 9 yX7_init := Or.inl (z_in 121 (by decide +kernel) rfl)
theorem lf7_9 : zFI RX7 9 7 0 := ⟨_, _, _, _, cf7, by decide, Or.inl (z_in 125 (by decide +kernel) rfl)⟩
theorem lf7_15 : zFI RX7 15 7 1 := ⟨_, _, _, _, cf7, by decide, Or.inl (z_in 126 (by decide +kernel) rfl)⟩
theorem lf9_47 : zFI RX9 47 7 1 := ⟨_, _, _, _, cf7, by decide, Or.inr ⟨"TrailSearch", List.mem_of_getElem? (i := 127) (by decide +kernel)⟩⟩
theorem lf5_65 : zFI RX5 65 7 1 := ⟨_, _, _, _, cf7, by decide, Or.inr ⟨"TrailSearch", List.mem_of_getElem? (i := 128) (by decide +kernel)⟩⟩
theorem lc9_16 : Cond.classLink RX9 16 RX5 ∈ zTb := z_in 135 (by decide +kernel) rfl
theorem lm9_18 : zML RX9 18 yX5_init := Or.inl (z_in 137 (by decide +kernel) rfl)
theorem lc5_22 : Cond.classLink RX5 22 RX4 ∈ zTb := z_in 141 (by decide +kernel) rfl
theorem lm5_24 : zML RX5 24 yX4_init := Or.inl (z_in 143 (by decide +kernel) rfl)
theorem lc4_36 : Cond.classLink RX4 36 RX1 ∈ zTb := z_in 147 (by decide +kernel) rfl
theorem lm4_38 : zML RX4 38 yX1_init := Or.inl (z_in 149 (by decide +kernel) rfl)
theorem lf1_9 : zFI RX1 9 1 0 := ⟨_, _, _, _, cf1, by decide, Or.inl (z_in 153 (by decide +kernel) rfl)⟩
theorem lf1_15 : zFI RX1 15 1 1 := ⟨_, _, _, _, cf1, by decide, Or.inl (z_in 154 (by decide +kernel) rfl)⟩
theorem lf1_18 : zFI RX1 18 1 2 := ⟨_, _, _, _, cf1, by decide, Or.inl (z_in 155 (by decide +kernel) rfl)⟩
theorem lf1_21 : zFI RX1 21 1 3 := ⟨_, _, _, _, cf1, by decide, Or.inl (z_in 156 (by decide +kernel) rfl)⟩
theorem lf1_25 : zFI RX1 25 1 4 := ⟨_, _, _, _, cf1, by decide, Or.inl (z_in 157 (by decide +kernel) rfl)⟩
theorem lf4_63 : zFI RX4 63 1 4 := ⟨_, _, _, _, cf1, by decide, Or.inr ⟨"TrailSearch", List.mem_of_getElem? (i := 158) (by decide +kernel)⟩⟩
theorem lf4_9 : zFI RX4 9 4 0 := ⟨_, _, _, _, cf4, by decide, Or.inl (z_in 170 (by decide +kernel) rfl)⟩
theorem lf4_15 : zFI RX4 15 4 1 := ⟨_, _, _, _, cf4, by decide, Or.inl (z_in 171 (by decide +kernel) rfl)⟩
theorem lf4_18 : zFI RX4 18 4 2 := ⟨_, _, _, _, cf4, by decide, Or.inl (z_in 172 (by decide +kernel) rfl)⟩
theorem lf4_21 : zFI RX4 21 4 3 := ⟨_, _, _, _, cf4, by decide, Or.inl (z_in 173 (by decide +kernel) rfl)⟩
theorem lf4_24 : zFI RX4 24 4 4 := ⟨_, _, _, _, cf4, by decide, Or.inl (z_in 174 (by decide +kernel) rfl)⟩
theorem lf4_27 : zFI RX4 27 4 5 := ⟨_, _, _, _, cf4, by decide, Or.inl (z_in 175 (by decide +kernel) rfl)⟩
theorem lf4_30 : zFI RX4 30 4 6 := ⟨_, _, _, _, cf4, by decide, Or.inl (z_in 176 (by decide +kernel) rfl)⟩
theorem lf4_33 : zFI RX4 33 4 7 := ⟨_, _, _, _, cf4, by decide, Or.inl (z_in 177 (by decide +kernel) rfl)⟩
theorem lf4_39 : zFI RX4 39 4 8 := ⟨_, _, _, _, cf4, by decide, Or.inl (z_in 178 (by decide +kernel) rfl)⟩
theorem lf5_86 : zFI RX5 86 4 8 := ⟨_, _, _, _, cf4, by decide, Or.inr ⟨"TrailSearch", List.mem_of_getElem? (i := 179) (by decide +kernel)⟩⟩
theorem lf6_261 : zFI RX6 261 4 8 := ⟨_, _, _, _, cf4, by decide, Or.inr ⟨"TrailSearch", List.mem_of_getElem? (i := 180) (by decide +kernel)⟩⟩
theorem lf4_43 : zFI RX4 43 4 9 := ⟨_, _, _, _, cf4, by decide, Or.inl (z_in 181 (by decide +kernel) rfl)⟩
theorem lf5_57 : zFI RX5 57 4 9 := ⟨_, _, _, _, cf4, by decide, Or.inr ⟨"TrailSearch", List.mem_of_getElem? (i := 182) (by decide +kernel)⟩⟩
theorem lf9_74 : zFI RX9 74 4 9 := ⟨_, _, _, _, cf4, by decide, Or.inr ⟨"TrailSearch", List.mem_of_getElem? (i := 183) (by decide +kernel)⟩⟩
theorem lf4_46 : zFI RX4 46 4 10 := ⟨_, _, _, _, cf4, by decide, Or.inl (z_in 184 (by decide +kernel) rfl)⟩
theorem lf9_70 : zFI RX9 70 4 10 := ⟨_, _, _, _, cf4, by decide, Or.inr ⟨"TrailSearch", List.mem_of_getElem? (i := 185) (by decide +kernel)⟩⟩
theorem lf5_70 : zFI RX5 70 4 10 := ⟨_, _, _, _, cf4, by decide, Or.inr ⟨"TrailSearch", List.mem_of_getElem? (i := 186) (by decide +kernel)⟩⟩
theorem lf5_9 : zFI RX5 9 5 0 := ⟨_, _, _, _, cf5, by decide, Or.inl (z_in 210 (by decide +kernel) rfl)⟩
theorem lf5_15 : zFI RX5 15 5 1 := ⟨_, _, _, _, cf5, by decide, Or.inl (z_in 211 (by decide +kernel) rfl)⟩
theorem lf5_19 : zFI RX5 19 5 2 := ⟨_, _, _, _, cf5, by decide, Or.inl (z_in 212 (by decide +kernel) rfl)⟩
theorem lf5_25 : zFI RX5 25 5 3 := ⟨_, _, _, _, cf5, by decide, Or.inl (z_in 213 (by decide +kernel) rfl)⟩
theorem lf9_62 : zFI RX9 62 5 3 := ⟨_, _, _, _, cf5, by decide, Or.inr ⟨"TrailSearch", List.mem_of_getElem? (i := 214) (by decide +kernel)⟩⟩
theorem lf5_32 : zFI RX5 32 5 4 := ⟨_, _, _, _, cf5, by decide, Or.inl (z_in 215 (by decide +kernel) rfl)⟩
theorem lf5_36 : zFI RX5 36 5 5 := ⟨_, _, _, _, cf5, by decide, Or.inl (z_in 216 (by decide +kernel) rfl)⟩
theorem lf5_39 : zFI RX5 39 5 6 := ⟨_, _, _, _, cf5, by decide, Or.inl (z_in 217 (by decide +kernel) rfl)⟩
theorem lf5_43 : zFI RX5 43 5 7 := ⟨_, _, _, _, cf5, by decide, Or.inl (z_in 218 (by decide +kernel) rfl)⟩
theorem lc9_25 : Cond.classLink RX9 25 RX4 ∈ zTb := z_in 236 (by decide +kernel) rfl
theorem lc9_31 : Cond.classLink RX9 31 RX6 ∈ zTb := z_in 238 (by decide +kernel) rfl
theorem lm9_37 : zML RX9 37 yX4_init := Or.inl (z_in 240 (by decide +kernel) rfl)
theorem lm9_38 : zML RX9 38 yX6_init := Or.inl (z_in 242 (by decide +kernel) rfl)
theorem lc6_9 : Cond.classLink RX6 9 RX4 ∈ zTb := z_in 246 (by decide +kernel) rfl
theorem lm6_11 : zML RX6 11 yX4_init := Or.inl (z_in 247 (by decide +kernel) rfl)
theorem lc6_18 : Cond.classLink RX6 18 RX0 ∈ zTb := z_in 248 (by decide +kernel) rfl
theorem lm6_20 : zML RX6 20 yX0_init := Or.inl (z_in 250 (by decide +kernel) rfl)
theorem lf0_9 : zFI RX0 9 0 0 := ⟨_, _, _, _, cf0, by decide, Or.inl (z_in 254 (by decide +kernel) rfl)⟩
theorem lf0_15 : zFI RX0 15 0 1 := ⟨_, _, _, _, cf0, by decide, Or.inl (z_in 255 (by decide +kernel) rfl)⟩
theorem lf6_60 : zFI RX6 60 0 1 := ⟨_, _, _, _, cf0, by decide, Or.inr ⟨"TrailSearch", List.mem_of_getElem? (i := 256) (by decide +kernel)⟩⟩
theorem lf9_102 : zFI RX9 102 0 1 := ⟨_, _, _, _, cf0, by decide, Or.inr ⟨"TrailSearch", List.mem_of_getElem? (i := 257) (by decide +kernel)⟩⟩
theorem lc6_25 : Cond.classLink RX6 25 RX3 ∈ zTb := z_in 263 (by decide +kernel) rfl
theorem lm6_27 : zML RX6 27 yX3_init := Or.inl (z_in 265 (by decide +kernel) rfl)
theorem lc3_9 : Cond.classLink RX3 9 RX2 ∈ zTb := z_in 269 (by decide +kernel) rfl
theorem lm3_17 : zML RX3 17 yX2_init := Or.inl (z_in 272 (by decide +kernel) rfl)
theorem lc2_9 : Cond.classLink RX2 9 RX8 ∈ zTb := z_in 276 (by decide +kernel) rfl
theorem lm2_11 : zML RX2 11 yX8_init := Or.inl (z_in 278 (by decide +kernel) rfl)
theorem lf8_9 : zFI RX8 9 8 0 := ⟨_, _, _, _, cf8, by decide, Or.inl (z_in 282 (by decide +kernel) rfl)⟩
theorem lf6_234 : zFI RX6 234 8 0 := ⟨_, _, _, _, cf8, by decide, Or.inr ⟨"TrailSearch", List.mem_of_getElem? (i := 283) (by decide +kernel)⟩⟩
theorem lf8_15 : zFI RX8 15 8 1 := ⟨_, _, _, _, cf8, by decide, Or.inl (z_in 284 (by decide +kernel) rfl)⟩
theorem lf8_18 : zFI RX8 18 8 2 := ⟨_, _, _, _, cf8, by decide, Or.inl (z_in 285 (by decide +kernel) rfl)⟩
theorem lf8_21 : zFI RX8 21 8 3 := ⟨_, _, _, _, cf8, by decide, Or.inl (z_in 286 (by decide +kernel) rfl)⟩
theorem lf6_120 : zFI RX6 120 8 3 := ⟨_, _, _, _, cf8, by decide, Or.inr ⟨"TrailSearch", List.mem_of_getElem? (i := 287) (by decide +kernel)⟩⟩
theorem lf8_25 : zFI RX8 25 8 4 := ⟨_, _, _, _, cf8, by decide, Or.inl (z_in 288 (by decide +kernel) rfl)⟩
theorem lf6_212 : zFI RX6 212 8 4 := ⟨_, _, _, _, cf8, by decide, Or.inr ⟨"TrailSearch", List.mem_of_getElem? (i := 289) (by decide +kernel)⟩⟩
theorem lf8_28 : zFI RX8 28 8 5 := ⟨_, _, _, _, cf8, by decide, Or.inl (z_in 290 (by decide +kernel) rfl)⟩
theorem lf0_35 : zFI RX0 35 8 5 := ⟨_, _, _, _, cf8, by decide, Or.inr ⟨"TrailSearch", List.mem_of_getElem? (i := 291) (by decide +kernel)⟩⟩
theorem lf2_45 : zFI RX2 45 8 5 := ⟨_, _, _, _, cf8, by decide, Or.inr ⟨"TrailSearch", List.mem_of_getElem? (i := 292) (by decide +kernel)⟩⟩
theorem lf3_43 : zFI RX3 43 8 5 := ⟨_, _, _, _, cf8, by decide, Or.inr ⟨"TrailSearch", List.mem_of_getElem? (i := 293) (by decide +kernel)⟩⟩
theorem lf6_173 : zFI RX6 173 8 5 := ⟨_, _, _, _, cf8, by decide, Or.inr ⟨"TrailSearch", List.mem_of_getElem? (i := 294) (by decide +kernel)⟩⟩
theorem lf8_31 : zFI RX8 31 8 6 := ⟨_, _, _, _, cf8, by decide, Or.inl (z_in 295 (by decide +kernel) rfl)⟩
theorem lf0_38 : zFI RX0 38 8 6 := ⟨_, _, _, _, cf8, by decide, Or.inr ⟨"TrailSearch", List.mem_of_getElem? (i := 296) (by decide +kernel)⟩⟩
theorem lf2_48 : zFI RX2 48 8 6 := ⟨_, _, _, _, cf8, by decide, Or.inr ⟨"TrailSearch", List.mem_of_getElem? (i := 297) (by decide +kernel)⟩⟩
theorem lf6_176 : zFI RX6 176 8 6 := ⟨_, _, _, _, cf8, by decide, Or.inr ⟨"TrailSearch", List.mem_of_getElem? (i := 298) (by decide +kernel)⟩⟩
theorem lf8_34 : zFI RX8 34 8 7 := ⟨_, _, _, _, cf8, by decide, Or.inl (z_in 299 (by decide +kernel) rfl)⟩
theorem lf3_30 : zFI RX3 30 8 7 := ⟨_, _, _, _, cf8, by decide, Or.inr ⟨"TrailSearch", List.mem_of_getElem? (i := 300) (by decide +kernel)⟩⟩
theorem lf6_170 : zFI RX6 170 8 7 := ⟨_, _, _, _, cf8, by decide, Or.inr ⟨"TrailSearch", List.mem_of_getElem? (i := 301) (by decide +kernel)⟩⟩
theorem lf2_12 : zFI RX2 12 2 0 := ⟨_, _, _, _, cf2, by decide, Or.inl (z_in 319 (by decide +kernel) rfl)⟩
theorem lf3_26 : zFI RX3 26 2 0 := ⟨_, _, _, _, cf2, by decide, Or.inr ⟨"TrailSearch", List.mem_of_getElem? (i := 320) (by decide +kernel)⟩⟩
theorem lf6_147 : zFI RX6 147 2 0 := ⟨_, _, _, _, cf2, by decide, Or.inr ⟨"TrailSearch", List.mem_of_getElem? (i := 321) (by decide +kernel)⟩⟩
theorem lf2_18 : zFI RX2 18 2 1 := ⟨_, _, _, _, cf2, by decide, Or.inl (z_in 322 (by decide +kernel) rfl)⟩
theorem lf6_309 : zFI RX6 309 2 1 := ⟨_, _, _, _, cf2, by decide, Or.inr ⟨"TrailSearch", List.mem_of_getElem? (i := 323) (by decide +kernel)⟩⟩
theorem lf2_32 : zFI RX2 32 2 2 := ⟨_, _, _, _, cf2, by decide, Or.inl (z_in 324 (by decide +kernel) rfl)⟩
theorem lf6_193 : zFI RX6 193 2 2 := ⟨_, _, _, _, cf2, by decide, Or.inr ⟨"TrailSearch", List.mem_of_getElem? (i := 325) (by decide +kernel)⟩⟩
theorem lf2_36 : zFI RX2 36 2 3 := ⟨_, _, _, _, cf2, by decide, Or.inl (z_in 326 (by decide +kernel) rfl)⟩
theorem lf6_291 : zFI RX6 291 2 3 := ⟨_, _, _, _, cf2, by decide, Or.inr ⟨"TrailSearch", List.mem_of_getElem? (i := 327) (by decide +kernel)⟩⟩
theorem lf2_39 : zFI RX2 39 2 4 := ⟨_, _, _, _, cf2, by decide, Or.inl (z_in 328 (by decide +kernel) rfl)⟩
theorem lf6_167 : zFI RX6 167 2 4 := ⟨_, _, _, _, cf2, by decide, Or.inr ⟨"TrailSearch", List.mem_of_getElem? (i := 329) (by decide +kernel)⟩⟩
theorem lf2_42 : zFI RX2 42 2 5 := ⟨_, _, _, _, cf2, by decide, Or.inl (z_in 330 (by decide +kernel) rfl)⟩
theorem lf6_301 : zFI RX6 301 2 5 := ⟨_, _, _, _, cf2, by decide, Or.inr ⟨"TrailSearch", List.mem_of_getElem? (i := 331) (by decide +kernel)⟩⟩
theorem lf3_11 : zFI RX3 11 3 0 := ⟨_, _, _, _, cf3, by decide, Or.inl (z_in 345 (by decide +kernel) rfl)⟩
theorem lf3_18 : zFI RX3 18 3 1 := ⟨_, _, _, _, cf3, by decide, Or.inl (z_in 346 (by decide +kernel) rfl)⟩
theorem lf6_63 : zFI RX6 63 3 1 := ⟨_, _, _, _, cf3, by decide, Or.inr ⟨"TrailSearch", List.mem_of_getElem? (i := 347) (by decide +kernel)⟩⟩
theorem lc6_35 : Cond.classLink RX6 35 RX8 ∈ zTb := z_in 353 (by decide +kernel) rfl
theorem lm6_41 : zML RX6 41 yX8_init := Or.inl (z_in 355 (by decide +kernel) rfl)
theorem lf6_12 : zFI RX6 12 6 0 := ⟨_, _, _, _, cf6, by decide, Or.inl (z_in 356 (by decide +kernel) rfl)⟩
theorem lf6_21 : zFI RX6 21 6 1 := ⟨_, _, _, _, cf6, by decide, Or.inl (z_in 357 (by decide +kernel) rfl)⟩
theorem lf9_98 : zFI RX9 98 6 1 := ⟨_, _, _, _, cf6, by decide, Or.inr ⟨"TrailSearch", List.mem_of_getElem? (i := 358) (by decide +kernel)⟩⟩
theorem lf6_28 : zFI RX6 28 6 2 := ⟨_, _, _, _, cf6, by decide, Or.inl (z_in 359 (by decide +kernel) rfl)⟩
theorem lf9_113 : zFI RX9 113 6 2 := ⟨_, _, _, _, cf6, by decide, Or.inr ⟨"TrailSearch", List.mem_of_getElem? (i := 360) (by decide +kernel)⟩⟩
theorem lf6_32 : zFI RX6 32 6 3 := ⟨_, _, _, _, cf6, by decide, Or.inl (z_in 361 (by decide +kernel) rfl)⟩
theorem lf6_37 : zFI RX6 37 6 4 := ⟨_, _, _, _, cf6, by decide, Or.inl (z_in 362 (by decide +kernel) rfl)⟩
theorem lf6_42 : zFI RX6 42 6 5 := ⟨_, _, _, _, cf6, by decide, Or.inl (z_in 363 (by decide +kernel) rfl)⟩
theorem lf6_46 : zFI RX6 46 6 6 := ⟨_, _, _, _, cf6, by decide, Or.inl (z_in 364 (by decide +kernel) rfl)⟩
theorem lf6_57 : zFI RX6 57 6 7 := ⟨_, _, _, _, cf6, by decide, Or.inl (z_in 365 (by decide +kernel) rfl)⟩
theorem lf9_91 : zFI RX9 91 6 7 := ⟨_, _, _, _, cf6, by decide, Or.inr ⟨"TrailSearch", List.mem_of_getElem? (i := 366) (by decide +kernel)⟩⟩
theorem lf6_53 : zFI RX6 53 6 8 := ⟨_, _, _, _, cf6, by decide, Or.inl (z_in 367 (by decide +kernel) rfl)⟩
theorem lf9_143 : zFI RX9 143 6 8 := ⟨_, _, _, _, cf6, by decide, Or.inr ⟨"TrailSearch", List.mem_of_getElem? (i := 368) (by decide +kernel)⟩⟩
theorem lf6_64 : zFI RX6 64 6 9 := ⟨_, _, _, _, cf6, by decide, Or.inl (z_in 369 (by decide +kernel) rfl)⟩
theorem lf6_70 : zFI RX6 70 6 10 := ⟨_, _, _, _, cf6, by decide, Or.inl (z_in 370 (by decide +kernel) rfl)⟩
theorem lf6_74 : zFI RX6 74 6 11 := ⟨_, _, _, _, cf6, by decide, Or.inl (z_in 371 (by decide +kernel) rfl)⟩
theorem lf6_77 : zFI RX6 77 6 12 := ⟨_, _, _, _, cf6, by decide, Or.inl (z_in 372 (by decide +kernel) rfl)⟩
theorem lf6_112 : zFI RX6 112 6 13 := ⟨_, _, _, _, cf6, by decide, Or.inl (z_in 373 (by decide +kernel) rfl)⟩
theorem lf9_10 : zFI RX9 10 9 0 := ⟨_, _, _, _, cf9, by decide, Or.inl (z_in 403 (by decide +kernel) rfl)⟩
theorem lf9_21 : zFI RX9 21 9 1 := ⟨_, _, _, _, cf9, by decide, Or.inl (z_in 404 (by decide +kernel) rfl)⟩
theorem lf9_27 : zFI RX9 27 9 2 := ⟨_, _, _, _, cf9, by decide, Or.inl (z_in 405 (by decide +kernel) rfl)⟩
theorem lf9_33 : zFI RX9 33 9 3 := ⟨_, _, _, _, cf9, by decide, Or.inl (z_in 406 (by decide +kernel) rfl)⟩
theorem lf9_39 : zFI RX9 39 9 4 := ⟨_, _, _, _, cf9, by decide, Or.inl (z_in 407 (by decide +kernel) rfl)⟩
theorem lmL_13 : zML RL 13 yX9_feed := Or.inl (z_in 419 (by decide +kernel) rfl)
theorem lm9_43 : zML RX9 43 yX7_add := Or.inl (z_in 423 (by decide +kernel) rfl)
theorem lmL_18 : zML RL 18 yX9_program := Or.inl (z_in 427 (by decide +kernel) rfl)
theorem lm9_51 : zML RX9 51 yX9_programAt := Or.inl (z_in 431 (by decide +kernel) rfl)
theorem lm9_55 : zML RX9 55 yX5_readProgram := Or.inl (z_in 435 (by decide +kernel) rfl)
theorem lm5_29 : zML RX5 29 yX4_clear := Or.inl (z_in 439 (by decide +kernel) rfl)
theorem lm4_50 : zML RX4 50 yX1_clear := Or.inl (z_in 443 (by decide +kernel) rfl)
theorem lm5_46 : zML RX5 46 yX5_setBefore := Or.inl (z_in 447 (by decide +kernel) rfl)
theorem lm5_50 : zML RX5 50 yX5_readStatement := Or.inl (z_in 451 (by decide +kernel) rfl)
theorem lm5_71 : zML RX5 71 yX7_at := Or.inl (z_in 455 (by decide +kernel) rfl)
theorem lm5_75 : zML RX5 75 yX5_addStatement := Or.inl (z_in 459 (by decide +kernel) rfl)
theorem lm5_95 : zML RX5 95 yX4_addStatement := Or.inl (z_in 463 (by decide +kernel) rfl)
theorem lm5_98 : zML RX5 98 yX4_linkFirst := Or.inl (z_in 467 (by decide +kernel) rfl)
theorem lm4_65 : zML RX4 65 yX4_has := Or.inl (z_in 471 (by decide +kernel) rfl)
theorem lm5_102 : zML RX5 102 yX4_linkBehind := Or.inl (z_in 475 (by decide +kernel) rfl)
theorem lm5_79 : zML RX5 79 yX5_openBracket := Or.inl (z_in 479 (by decide +kernel) rfl)
theorem lm5_105 : zML RX5 105 yX4_addPart := Or.inl (z_in 483 (by decide +kernel) rfl)
theorem lm5_83 : zML RX5 83 yX5_isVariable := Or.inl (z_in 487 (by decide +kernel) rfl)
theorem lm5_61 : zML RX5 61 yX5_readFormula := Or.inl (z_in 490 (by decide +kernel) rfl)
theorem lm5_117 : zML RX5 117 yX1_startFormula := Or.inl (z_in 494 (by decide +kernel) rfl)
theorem lm5_122 : zML RX5 122 yX5_readFactor := Or.inl (z_in 498 (by decide +kernel) rfl)
theorem lm5_129 : zML RX5 129 yX1_addFactor := Or.inl (z_in 502 (by decide +kernel) rfl)
theorem lm5_111 : zML RX5 111 yX5_isDigit := Or.inl (z_in 506 (by decide +kernel) rfl)
theorem lm5_126 : zML RX5 126 yX5_joinOf := Or.inl (z_in 509 (by decide +kernel) rfl)
theorem lm5_89 : zML RX5 89 yX5_readChoose := Or.inl (z_in 512 (by decide +kernel) rfl)
theorem lm5_108 : zML RX5 108 yX5_readSign := Or.inl (z_in 516 (by decide +kernel) rfl)
theorem lm5_92 : zML RX5 92 yX5_readTest := Or.inl (z_in 520 (by decide +kernel) rfl)
theorem lm5_114 : zML RX5 114 yX4_setDetail := Or.inl (z_in 524 (by decide +kernel) rfl)
theorem lm5_54 : zML RX5 54 yX5_readBehind := Or.inl (z_in 528 (by decide +kernel) rfl)
theorem lm5_133 : zML RX5 133 yX4_kindOf := Or.inl (z_in 532 (by decide +kernel) rfl)
theorem lm9_59 : zML RX9 59 yX7_clear := Or.inl (z_in 536 (by decide +kernel) rfl)
theorem lm9_66 : zML RX9 66 yX4_become := Or.inl (z_in 540 (by decide +kernel) rfl)
theorem lm4_59 : zML RX4 59 yX1_become := Or.inl (z_in 547 (by decide +kernel) rfl)
theorem lmL_22 : zML RL 22 yX9_cost := Or.inl (z_in 552 (by decide +kernel) rfl)
theorem lm9_71 : zML RX9 71 yX5_readCost := Or.inl (z_in 556 (by decide +kernel) rfl)
theorem lm9_78 : zML RX9 78 yX1_become := Or.inl (z_in 560 (by decide +kernel) rfl)
theorem lmL_26 : zML RL 26 yX9_begin := Or.inl (z_in 561 (by decide +kernel) rfl)
theorem lm9_83 : zML RX9 83 yX9_searchAt := Or.inl (z_in 565 (by decide +kernel) rfl)
theorem lm9_87 : zML RX9 87 yX6_start := Or.inl (z_in 569 (by decide +kernel) rfl)
theorem lm6_49 : zML RX6 49 yX4_become := Or.inl (z_in 573 (by decide +kernel) rfl)
theorem lm6_67 : zML RX6 67 yX6_startWay := Or.inl (z_in 574 (by decide +kernel) rfl)
theorem lm6_80 : zML RX6 80 yX6_currentWay := Or.inl (z_in 578 (by decide +kernel) rfl)
theorem lm6_84 : zML RX6 84 yX8_start := Or.inl (z_in 582 (by decide +kernel) rfl)
theorem lm8_37 : zML RX8 37 yX8_setMark := Or.inl (z_in 586 (by decide +kernel) rfl)
theorem lmL_31 : zML RL 31 yX9_go := Or.inl (z_in 590 (by decide +kernel) rfl)
theorem lm9_94 : zML RX9 94 yX6_run := Or.inl (z_in 594 (by decide +kernel) rfl)
theorem li6_115 : Cond.constant RX6 115 1000000 ∈ zTb := z_in 598 (by decide +kernel) rfl
theorem lm6_116 : zML RX6 116 yX6_goBack := Or.inl (z_in 599 (by decide +kernel) rfl)
theorem lm6_137 : zML RX6 137 yX6_goBackInNot := Or.inl (z_in 603 (by decide +kernel) rfl)
theorem lm6_158 : zML RX6 158 yX6_baseOfNot := Or.inl (z_in 607 (by decide +kernel) rfl)
theorem lm6_161 : zML RX6 161 yX4_behind := Or.inl (z_in 611 (by decide +kernel) rfl)
theorem lm6_126 : zML RX6 126 yX6_spend := Or.inl (z_in 615 (by decide +kernel) rfl)
theorem lm6_133 : zML RX6 133 yX6_tally := Or.inl (z_in 619 (by decide +kernel) rfl)
theorem lm6_154 : zML RX6 154 yX6_take := Or.inl (z_in 623 (by decide +kernel) rfl)
theorem lm6_102 : zML RX6 102 yX3_openAt := Or.inl (z_in 627 (by decide +kernel) rfl)
theorem lm6_93 : zML RX6 93 yX8_become := Or.inl (z_in 631 (by decide +kernel) rfl)
theorem lm6_179 : zML RX6 179 yX4_kindOf := Or.inl (z_in 636 (by decide +kernel) rfl)
theorem lm6_182 : zML RX6 182 yX4_partFirst := Or.inl (z_in 637 (by decide +kernel) rfl)
theorem lm6_186 : zML RX6 186 yX4_levelOf := Or.inl (z_in 641 (by decide +kernel) rfl)
theorem lm6_189 : zML RX6 189 yX8_enter := Or.inl (z_in 645 (by decide +kernel) rfl)
theorem lm6_196 : zML RX6 196 yX2_amongAt := Or.inl (z_in 649 (by decide +kernel) rfl)
theorem lm6_199 : zML RX6 199 yX4_detailOf := Or.inl (z_in 653 (by decide +kernel) rfl)
theorem lm6_202 : zML RX6 202 yX8_setValue := Or.inl (z_in 657 (by decide +kernel) rfl)
theorem lm6_205 : zML RX6 205 yX2_left := Or.inl (z_in 661 (by decide +kernel) rfl)
theorem lm6_208 : zML RX6 208 yX3_remove := Or.inl (z_in 665 (by decide +kernel) rfl)
theorem lm3_35 : zML RX3 35 yX3_withoutBit := Or.inl (z_in 669 (by decide +kernel) rfl)
theorem lm6_141 : zML RX6 141 yX6_goDeeper := Or.inl (z_in 672 (by decide +kernel) rfl)
theorem lm6_164 : zML RX6 164 yX6_finish := Or.inl (z_in 676 (by decide +kernel) rfl)
theorem lm6_144 : zML RX6 144 yX6_chosen := Or.inl (z_in 680 (by decide +kernel) rfl)
theorem lm6_106 : zML RX6 106 yX2_weight := Or.inl (z_in 684 (by decide +kernel) rfl)
theorem lm6_151 : zML RX6 151 yX8_unlikeValues := Or.inl (z_in 688 (by decide +kernel) rfl)
theorem lm8_47 : zML RX8 47 yX8_valueOf := Or.inl (z_in 692 (by decide +kernel) rfl)
theorem lm6_123 : zML RX6 123 yX6_endPart := Or.inl (z_in 696 (by decide +kernel) rfl)
theorem lm6_215 : zML RX6 215 yX6_through := Or.inl (z_in 700 (by decide +kernel) rfl)
theorem lm6_237 : zML RX6 237 yX4_priceOf := Or.inl (z_in 704 (by decide +kernel) rfl)
theorem lm4_69 : zML RX4 69 yX1_worth := Or.inl (z_in 708 (by decide +kernel) rfl)
theorem li1_34 : Cond.constant RX1 34 999999 ∈ zTb := z_in 712 (by decide +kernel) rfl
theorem lm1_35 : zML RX1 35 yX1_endOf := Or.inl (z_in 713 (by decide +kernel) rfl)
theorem lm1_39 : zML RX1 39 yX1_factorWorth := Or.inl (z_in 717 (by decide +kernel) rfl)
theorem lm1_43 : zML RX1 43 yX1_joinAt := Or.inl (z_in 721 (by decide +kernel) rfl)
theorem lm1_46 : zML RX1 46 yX9_isValue := Or.inr ⟨"TrailSearch", List.mem_of_getElem? (i := 725) (by decide +kernel)⟩
theorem lm6_241 : zML RX6 241 yX6_tell := Or.inl (z_in 728 (by decide +kernel) rfl)
theorem lm6_244 : zML RX6 244 yX0_add := Or.inl (z_in 732 (by decide +kernel) rfl)
theorem lm0_25 : zML RX0 25 yX8_valueOf := Or.inl (z_in 736 (by decide +kernel) rfl)
theorem lm0_31 : zML RX0 31 yX0_setField := Or.inl (z_in 737 (by decide +kernel) rfl)
theorem lm6_218 : zML RX6 218 yX8_roundsAt := Or.inl (z_in 741 (by decide +kernel) rfl)
theorem lm6_221 : zML RX6 221 yX8_setRounds := Or.inl (z_in 745 (by decide +kernel) rfl)
theorem lm6_224 : zML RX6 224 yX8_markAt := Or.inl (z_in 749 (by decide +kernel) rfl)
theorem lm6_227 : zML RX6 227 yX6_drop := Or.inl (z_in 753 (by decide +kernel) rfl)
theorem lm6_282 : zML RX6 282 yX3_drop := Or.inl (z_in 757 (by decide +kernel) rfl)
theorem lm3_39 : zML RX3 39 yX3_openAt := Or.inl (z_in 761 (by decide +kernel) rfl)
theorem lm3_46 : zML RX3 46 yX3_remove := Or.inl (z_in 762 (by decide +kernel) rfl)
theorem lm6_231 : zML RX6 231 yX4_around := Or.inl (z_in 763 (by decide +kernel) rfl)
theorem lm6_130 : zML RX6 130 yX6_beginStatement := Or.inl (z_in 767 (by decide +kernel) rfl)
theorem lm6_248 : zML RX6 248 yX6_assign := Or.inl (z_in 771 (by decide +kernel) rfl)
theorem lm6_265 : zML RX6 265 yX4_formulaOf := Or.inl (z_in 775 (by decide +kernel) rfl)
theorem lm6_268 : zML RX6 268 yX1_worth := Or.inl (z_in 779 (by decide +kernel) rfl)
theorem li6_274 : Cond.constant RX6 274 999999 ∈ zTb := z_in 780 (by decide +kernel) rfl
theorem lm6_275 : zML RX6 275 yX6_endWay := Or.inl (z_in 781 (by decide +kernel) rfl)
theorem lm6_252 : zML RX6 252 yX6_test := Or.inl (z_in 785 (by decide +kernel) rfl)
theorem lm6_278 : zML RX6 278 yX6_isSo := Or.inl (z_in 789 (by decide +kernel) rfl)
theorem lm6_255 : zML RX6 255 yX6_choose := Or.inl (z_in 792 (by decide +kernel) rfl)
theorem lm6_284 : zML RX6 284 yX3_spare := Or.inl (z_in 796 (by decide +kernel) rfl)
theorem lm6_288 : zML RX6 288 yX4_partsOf := Or.inl (z_in 800 (by decide +kernel) rfl)
theorem lm6_294 : zML RX6 294 yX6_prepareUpTo := Or.inl (z_in 804 (by decide +kernel) rfl)
theorem lm6_298 : zML RX6 298 yX6_prepareAmong := Or.inl (z_in 808 (by decide +kernel) rfl)
theorem lm6_258 : zML RX6 258 yX6_beginNot := Or.inl (z_in 815 (by decide +kernel) rfl)
theorem lmL_36 : zML RL 36 yX9_all := Or.inl (z_in 819 (by decide +kernel) rfl)
theorem lmL_40 : zML RL 40 yX9_of := Or.inl (z_in 823 (by decide +kernel) rfl)
theorem lm9_105 : zML RX9 105 yX6_tell := Or.inl (z_in 827 (by decide +kernel) rfl)
theorem lmL_44 : zML RL 44 yX9_answer := Or.inl (z_in 828 (by decide +kernel) rfl)
theorem lm9_109 : zML RX9 109 yX0_field := Or.inl (z_in 832 (by decide +kernel) rfl)
theorem lmL_48 : zML RL 48 yX9_open := Or.inl (z_in 836 (by decide +kernel) rfl)
theorem lm9_117 : zML RX9 117 yX3_openAt := Or.inl (z_in 840 (by decide +kernel) rfl)
theorem lm9_123 : zML RX9 123 yX2_tell := Or.inl (z_in 841 (by decide +kernel) rfl)
theorem lm2_51 : zML RX2 51 yX2_left := Or.inl (z_in 845 (by decide +kernel) rfl)
theorem lm2_55 : zML RX2 55 yX8_valueOf := Or.inl (z_in 846 (by decide +kernel) rfl)
theorem lmL_52 : zML RL 52 yX9_next := Or.inl (z_in 847 (by decide +kernel) rfl)
theorem lm9_126 : zML RX9 126 yX6_mayTake := Or.inl (z_in 851 (by decide +kernel) rfl)
theorem lm9_130 : zML RX9 130 yX6_chosen := Or.inl (z_in 855 (by decide +kernel) rfl)
theorem lmL_56 : zML RL 56 yX9_ordered := Or.inl (z_in 856 (by decide +kernel) rfl)
theorem lm9_133 : zML RX9 133 yX0_ranked := Or.inl (z_in 860 (by decide +kernel) rfl)
theorem lm0_41 : zML RX0 41 yX0_rankOf := Or.inl (z_in 864 (by decide +kernel) rfl)
theorem lm0_44 : zML RX0 44 yX0_field := Or.inl (z_in 868 (by decide +kernel) rfl)
theorem lmL_60 : zML RL 60 yX9_common := Or.inl (z_in 869 (by decide +kernel) rfl)
theorem lm9_136 : zML RX9 136 yX0_sharedWith := Or.inl (z_in 873 (by decide +kernel) rfl)
theorem lm0_48 : zML RX0 48 yX0_hasLike := Or.inl (z_in 877 (by decide +kernel) rfl)
theorem lm0_52 : zML RX0 52 yX0_alike := Or.inl (z_in 881 (by decide +kernel) rfl)
theorem lmL_64 : zML RL 64 yX9_unlike := Or.inl (z_in 885 (by decide +kernel) rfl)
theorem lm9_140 : zML RX9 140 yX0_different := Or.inl (z_in 889 (by decide +kernel) rfl)
theorem lmL_68 : zML RL 68 yX9_turn := Or.inl (z_in 893 (by decide +kernel) rfl)
theorem lmL_72 : zML RL 72 yX9_copy := Or.inl (z_in 897 (by decide +kernel) rfl)
theorem lm9_146 : zML RX9 146 yX6_become := Or.inl (z_in 901 (by decide +kernel) rfl)
theorem lm6_87 : zML RX6 87 yX0_become := Or.inl (z_in 905 (by decide +kernel) rfl)
theorem lm6_90 : zML RX6 90 yX3_become := Or.inl (z_in 910 (by decide +kernel) rfl)
theorem lm3_22 : zML RX3 22 yX2_become := Or.inl (z_in 914 (by decide +kernel) rfl)
theorem lm2_22 : zML RX2 22 yX8_become := Or.inl (z_in 918 (by decide +kernel) rfl)
theorem lmL_76 : zML RL 76 yX9_would := Or.inl (z_in 921 (by decide +kernel) rfl)
theorem lmL_80 : zML RL 80 yX9_count := Or.inl (z_in 925 (by decide +kernel) rfl)
theorem lm9_149 : zML RX9 149 yX9_countPrograms := Or.inl (z_in 929 (by decide +kernel) rfl)
theorem lm9_152 : zML RX9 152 yX9_countUndone := Or.inl (z_in 933 (by decide +kernel) rfl)
theorem lm9_155 : zML RX9 155 yX9_countAnswers := Or.inl (z_in 937 (by decide +kernel) rfl)
theorem lcL_10 : Cond.classLink RL 10 RX10 ∈ zTb := z_in 941 (by decide +kernel) rfl
theorem lmL_12 : zML RL 12 yX10_init := Or.inl (z_in 943 (by decide +kernel) rfl)
theorem li10_13 : Cond.constant RX10 13 70200 ∈ zTb := z_in 947 (by decide +kernel) rfl
theorem lf10_9 : zFI RX10 9 10 0 := ⟨_, _, _, _, cf10, by decide, Or.inl (z_in 948 (by decide +kernel) rfl)⟩
theorem lf10_47 : zFI RX10 47 10 1 := ⟨_, _, _, _, cf10, by decide, Or.inl (z_in 949 (by decide +kernel) rfl)⟩
theorem lf10_51 : zFI RX10 51 10 2 := ⟨_, _, _, _, cf10, by decide, Or.inl (z_in 950 (by decide +kernel) rfl)⟩
theorem lf10_58 : zFI RX10 58 10 3 := ⟨_, _, _, _, cf10, by decide, Or.inl (z_in 951 (by decide +kernel) rfl)⟩
theorem lf10_128 : zFI RX10 128 10 4 := ⟨_, _, _, _, cf10, by decide, Or.inl (z_in 952 (by decide +kernel) rfl)⟩
theorem lf10_104 : zFI RX10 104 10 5 := ⟨_, _, _, _, cf10, by decide, Or.inl (z_in 953 (by decide +kernel) rfl)⟩
theorem lf10_73 : zFI RX10 73 10 6 := ⟨_, _, _, _, cf10, by decide, Or.inl (z_in 954 (by decide +kernel) rfl)⟩
theorem lf10_76 : zFI RX10 76 10 7 := ⟨_, _, _, _, cf10, by decide, Or.inl (z_in 955 (by decide +kernel) rfl)⟩
theorem lf10_14 : zFI RX10 14 10 8 := ⟨_, _, _, _, cf10, by decide, Or.inl (z_in 956 (by decide +kernel) rfl)⟩
theorem lf10_17 : zFI RX10 17 10 9 := ⟨_, _, _, _, cf10, by decide, Or.inl (z_in 957 (by decide +kernel) rfl)⟩
theorem lf10_20 : zFI RX10 20 10 10 := ⟨_, _, _, _, cf10, by decide, Or.inl (z_in 958 (by decide +kernel) rfl)⟩
theorem lf10_23 : zFI RX10 23 10 11 := ⟨_, _, _, _, cf10, by decide, Or.inl (z_in 959 (by decide +kernel) rfl)⟩
theorem lf10_26 : zFI RX10 26 10 12 := ⟨_, _, _, _, cf10, by decide, Or.inl (z_in 960 (by decide +kernel) rfl)⟩
theorem lf10_29 : zFI RX10 29 10 13 := ⟨_, _, _, _, cf10, by decide, Or.inl (z_in 961 (by decide +kernel) rfl)⟩
theorem lf10_32 : zFI RX10 32 10 14 := ⟨_, _, _, _, cf10, by decide, Or.inl (z_in 962 (by decide +kernel) rfl)⟩
theorem lf10_35 : zFI RX10 35 10 15 := ⟨_, _, _, _, cf10, by decide, Or.inl (z_in 963 (by decide +kernel) rfl)⟩
theorem lf10_156 : zFI RX10 156 10 16 := ⟨_, _, _, _, cf10, by decide, Or.inl (z_in 964 (by decide +kernel) rfl)⟩
theorem lf10_160 : zFI RX10 160 10 17 := ⟨_, _, _, _, cf10, by decide, Or.inl (z_in 965 (by decide +kernel) rfl)⟩
theorem lf10_185 : zFI RX10 185 10 18 := ⟨_, _, _, _, cf10, by decide, Or.inl (z_in 966 (by decide +kernel) rfl)⟩
theorem lf10_148 : zFI RX10 148 10 19 := ⟨_, _, _, _, cf10, by decide, Or.inl (z_in 967 (by decide +kernel) rfl)⟩
theorem lf10_38 : zFI RX10 38 10 20 := ⟨_, _, _, _, cf10, by decide, Or.inl (z_in 968 (by decide +kernel) rfl)⟩
theorem lmL_17 : zML RL 17 yX10_feed := Or.inl (z_in 1012 (by decide +kernel) rfl)
theorem ll10_41 : Cond.constantLong RX10 41 255 ∈ zTb := z_in 1016 (by decide +kernel) rfl
theorem lm10_43 : zML RX10 43 yX10_in := Or.inl (z_in 1017 (by decide +kernel) rfl)
theorem lmL_21 : zML RL 21 yX10_program := Or.inl (z_in 1020 (by decide +kernel) rfl)
theorem ll10_137 : Cond.constantLong RX10 137 3 ∈ zTb := z_in 1024 (by decide +kernel) rfl
theorem lm10_139 : zML RX10 139 yX10_starts := Or.inl (z_in 1025 (by decide +kernel) rfl)
theorem lm10_134 : zML RX10 134 yX10_readsProgram := Or.inl (z_in 1029 (by decide +kernel) rfl)
theorem lm10_101 : zML RX10 101 yX10_readsStep := Or.inl (z_in 1033 (by decide +kernel) rfl)
theorem lm10_69 : zML RX10 69 yX10_wrong := Or.inl (z_in 1037 (by decide +kernel) rfl)
theorem lm10_61 : zML RX10 61 yX10_peek := Or.inl (z_in 1041 (by decide +kernel) rfl)
theorem lm10_54 : zML RX10 54 yX10_byteAt := Or.inl (z_in 1045 (by decide +kernel) rfl)
theorem lm10_83 : zML RX10 83 yX10_isName := Or.inl (z_in 1049 (by decide +kernel) rfl)
theorem ll10_79 : Cond.constantLong RX10 79 97 ∈ zTb := z_in 1053 (by decide +kernel) rfl
theorem ll10_81 : Cond.constantLong RX10 81 104 ∈ zTb := z_in 1054 (by decide +kernel) rfl
theorem lm10_107 : zML RX10 107 yX10_readsSum := Or.inl (z_in 1055 (by decide +kernel) rfl)
theorem lm10_98 : zML RX10 98 yX10_readsProduct := Or.inl (z_in 1059 (by decide +kernel) rfl)
theorem lm10_91 : zML RX10 91 yX10_readsUnit := Or.inl (z_in 1063 (by decide +kernel) rfl)
theorem lm10_87 : zML RX10 87 yX10_writes := Or.inl (z_in 1067 (by decide +kernel) rfl)
theorem lm10_65 : zML RX10 65 yX10_takes := Or.inl (z_in 1071 (by decide +kernel) rfl)
theorem ll10_94 : Cond.constantLong RX10 94 48 ∈ zTb := z_in 1075 (by decide +kernel) rfl
theorem ll10_96 : Cond.constantLong RX10 96 57 ∈ zTb := z_in 1076 (by decide +kernel) rfl
theorem lm10_110 : zML RX10 110 yX10_readsChoose := Or.inl (z_in 1077 (by decide +kernel) rfl)
theorem lm10_125 : zML RX10 125 yX10_wants := Or.inl (z_in 1081 (by decide +kernel) rfl)
theorem ll10_113 : Cond.constantLong RX10 113 49 ∈ zTb := z_in 1085 (by decide +kernel) rfl
theorem lm10_115 : zML RX10 115 yX10_readsBrackets := Or.inl (z_in 1086 (by decide +kernel) rfl)
theorem lm10_131 : zML RX10 131 yX10_opens := Or.inl (z_in 1090 (by decide +kernel) rfl)
theorem lm10_119 : zML RX10 119 yX10_readsWays := Or.inl (z_in 1094 (by decide +kernel) rfl)
theorem lm10_122 : zML RX10 122 yX10_readsTest := Or.inl (z_in 1098 (by decide +kernel) rfl)
theorem lm10_142 : zML RX10 142 yX10_ends := Or.inl (z_in 1102 (by decide +kernel) rfl)
theorem lmL_25 : zML RL 25 yX10_cost := Or.inl (z_in 1106 (by decide +kernel) rfl)
theorem lmL_30 : zML RL 30 yX10_begin := Or.inl (z_in 1110 (by decide +kernel) rfl)
theorem lm10_260 : zML RX10 260 yX10_isSearch := Or.inl (z_in 1114 (by decide +kernel) rfl)
theorem ll10_263 : Cond.constantLong RX10 263 5 ∈ zTb := z_in 1117 (by decide +kernel) rfl
theorem lm10_265 : zML RX10 265 yX10_choosesSearch := Or.inl (z_in 1118 (by decide +kernel) rfl)
theorem lm10_166 : zML RX10 166 yX10_level := Or.inl (z_in 1122 (by decide +kernel) rfl)
theorem lm10_242 : zML RX10 242 yX10_startsAnew := Or.inl (z_in 1126 (by decide +kernel) rfl)
theorem lm10_211 : zML RX10 211 yX10_begins := Or.inl (z_in 1130 (by decide +kernel) rfl)
theorem lmL_35 : zML RL 35 yX10_go := Or.inl (z_in 1134 (by decide +kernel) rfl)
theorem ll10_268 : Cond.constantLong RX10 268 500 ∈ zTb := z_in 1138 (by decide +kernel) rfl
theorem lm10_270 : zML RX10 270 yX10_goes := Or.inl (z_in 1139 (by decide +kernel) rfl)
theorem lm10_257 : zML RX10 257 yX10_goesOnce := Or.inl (z_in 1143 (by decide +kernel) rfl)
theorem lm10_245 : zML RX10 245 yX10_takesNext := Or.inl (z_in 1147 (by decide +kernel) rfl)
theorem lm10_236 : zML RX10 236 yX10_chosen := Or.inl (z_in 1151 (by decide +kernel) rfl)
theorem ll10_231 : Cond.constantLong RX10 231 2 ∈ zTb := z_in 1155 (by decide +kernel) rfl
theorem lm10_163 : zML RX10 163 yX10_pointAt := Or.inl (z_in 1156 (by decide +kernel) rfl)
theorem lm10_233 : zML RX10 233 yX10_rank := Or.inl (z_in 1160 (by decide +kernel) rfl)
theorem lm10_188 : zML RX10 188 yX10_mayStep := Or.inl (z_in 1164 (by decide +kernel) rfl)
theorem lm10_239 : zML RX10 239 yX10_takesPoint := Or.inl (z_in 1168 (by decide +kernel) rfl)
theorem lm10_204 : zML RX10 204 yX10_enters := Or.inl (z_in 1173 (by decide +kernel) rfl)
theorem lm10_182 : zML RX10 182 yX10_takesOff := Or.inl (z_in 1177 (by decide +kernel) rfl)
theorem lm10_169 : zML RX10 169 yX10_comesBy := Or.inl (z_in 1181 (by decide +kernel) rfl)
theorem lm10_208 : zML RX10 208 yX10_atLevel := Or.inl (z_in 1185 (by decide +kernel) rfl)
theorem lm10_248 : zML RX10 248 yX10_move := Or.inl (z_in 1189 (by decide +kernel) rfl)
theorem lm10_194 : zML RX10 194 yX10_leaves := Or.inl (z_in 1193 (by decide +kernel) rfl)
theorem lm10_191 : zML RX10 191 yX10_cuts := Or.inl (z_in 1197 (by decide +kernel) rfl)
theorem lm10_179 : zML RX10 179 yX10_pointOf := Or.inl (z_in 1201 (by decide +kernel) rfl)
theorem lm10_145 : zML RX10 145 yX10_works := Or.inl (z_in 1205 (by decide +kernel) rfl)
theorem ll10_152 : Cond.constantLong RX10 152 (-999) ∈ zTb := z_in 1209 (by decide +kernel) rfl
theorem ll10_154 : Cond.constantLong RX10 154 999 ∈ zTb := z_in 1210 (by decide +kernel) rfl
theorem lm10_197 : zML RX10 197 yX10_goesBehind := Or.inl (z_in 1211 (by decide +kernel) rfl)
theorem lm10_201 : zML RX10 201 yX10_isSo := Or.inl (z_in 1215 (by decide +kernel) rfl)
theorem lm10_214 : zML RX10 214 yX10_makes := Or.inl (z_in 1219 (by decide +kernel) rfl)
theorem lm10_217 : zML RX10 217 yX10_choices := Or.inl (z_in 1223 (by decide +kernel) rfl)
theorem lm10_220 : zML RX10 220 yX10_openMany := Or.inl (z_in 1227 (by decide +kernel) rfl)
theorem lm10_223 : zML RX10 223 yX10_costOf := Or.inl (z_in 1231 (by decide +kernel) rfl)
theorem li10_159 : Cond.constant RX10 159 999999 ∈ zTb := z_in 1235 (by decide +kernel) rfl
theorem lm10_251 : zML RX10 251 yX10_leavesNever := Or.inl (z_in 1237 (by decide +kernel) rfl)
theorem lm10_254 : zML RX10 254 yX10_answers := Or.inl (z_in 1241 (by decide +kernel) rfl)
theorem lmL_39 : zML RL 39 yX10_all := Or.inl (z_in 1245 (by decide +kernel) rfl)
theorem ll10_273 : Cond.constantLong RX10 273 2000 ∈ zTb := z_in 1249 (by decide +kernel) rfl
theorem lm10_275 : zML RX10 275 yX10_goesAll := Or.inl (z_in 1250 (by decide +kernel) rfl)
theorem lmL_43 : zML RL 43 yX10_of := Or.inl (z_in 1254 (by decide +kernel) rfl)
theorem ll10_278 : Cond.constantLong RX10 278 9 ∈ zTb := z_in 1258 (by decide +kernel) rfl
theorem lm10_280 : zML RX10 280 yX10_isNone := Or.inl (z_in 1259 (by decide +kernel) rfl)
theorem lmL_47 : zML RL 47 yX10_answer := Or.inl (z_in 1263 (by decide +kernel) rfl)
theorem ll10_283 : Cond.constantLong RX10 283 11 ∈ zTb := z_in 1267 (by decide +kernel) rfl
theorem lmL_51 : zML RL 51 yX10_open := Or.inl (z_in 1268 (by decide +kernel) rfl)
theorem lm10_285 : zML RX10 285 yX10_openOne := Or.inl (z_in 1272 (by decide +kernel) rfl)
theorem lmL_55 : zML RL 55 yX10_next := Or.inl (z_in 1276 (by decide +kernel) rfl)
theorem lmL_59 : zML RL 59 yX10_ordered := Or.inl (z_in 1280 (by decide +kernel) rfl)
theorem lm10_288 : zML RX10 288 yX10_isAhead := Or.inl (z_in 1284 (by decide +kernel) rfl)
theorem lmL_63 : zML RL 63 yX10_common := Or.inl (z_in 1288 (by decide +kernel) rfl)
theorem lm10_295 : zML RX10 295 yX10_hasLike := Or.inl (z_in 1292 (by decide +kernel) rfl)
theorem lm10_292 : zML RX10 292 yX10_isLike := Or.inl (z_in 1296 (by decide +kernel) rfl)
theorem lmL_67 : zML RL 67 yX10_unlike := Or.inl (z_in 1300 (by decide +kernel) rfl)
theorem lmL_71 : zML RL 71 yX10_turn := Or.inl (z_in 1304 (by decide +kernel) rfl)
theorem ll10_299 : Cond.constantLong RX10 299 4 ∈ zTb := z_in 1308 (by decide +kernel) rfl
theorem lmL_75 : zML RL 75 yX10_copy := Or.inl (z_in 1309 (by decide +kernel) rfl)
theorem lmL_79 : zML RL 79 yX10_would := Or.inl (z_in 1313 (by decide +kernel) rfl)
theorem lmL_83 : zML RL 83 yX10_count := Or.inl (z_in 1317 (by decide +kernel) rfl)
theorem ni0 : Cond.instantiable RX0 2 ∈ zTb := z_in 249 (by decide +kernel) rfl
theorem nz0 : Cond.initialized RX0 ∈ zTb := z_in 104 (by decide +kernel) rfl
theorem ni1 : Cond.instantiable RX1 5 ∈ zTb := z_in 148 (by decide +kernel) rfl
theorem nz1 : Cond.initialized RX1 ∈ zTb := z_in 102 (by decide +kernel) rfl
theorem ni2 : Cond.instantiable RX2 6 ∈ zTb := z_in 271 (by decide +kernel) rfl
theorem nz2 : Cond.initialized RX2 ∈ zTb := z_in 106 (by decide +kernel) rfl
theorem ni3 : Cond.instantiable RX3 2 ∈ zTb := z_in 264 (by decide +kernel) rfl
theorem nz3 : Cond.initialized RX3 ∈ zTb := z_in 105 (by decide +kernel) rfl
theorem ni4 : Cond.instantiable RX4 11 ∈ zTb := z_in 142 (by decide +kernel) rfl
theorem nz4 : Cond.initialized RX4 ∈ zTb := z_in 101 (by decide +kernel) rfl
theorem ni5 : Cond.instantiable RX5 8 ∈ zTb := z_in 136 (by decide +kernel) rfl
theorem nz5 : Cond.initialized RX5 ∈ zTb := z_in 100 (by decide +kernel) rfl
theorem ni6 : Cond.instantiable RX6 14 ∈ zTb := z_in 241 (by decide +kernel) rfl
theorem nz6 : Cond.initialized RX6 ∈ zTb := z_in 103 (by decide +kernel) rfl
theorem ni7 : Cond.instantiable RX7 2 ∈ zTb := z_in 120 (by decide +kernel) rfl
theorem nz7 : Cond.initialized RX7 ∈ zTb := z_in 99 (by decide +kernel) rfl
theorem ni8 : Cond.instantiable RX8 8 ∈ zTb := z_in 277 (by decide +kernel) rfl
theorem nz8 : Cond.initialized RX8 ∈ zTb := z_in 107 (by decide +kernel) rfl
theorem ni9 : Cond.instantiable RX9 5 ∈ zTb := z_in 112 (by decide +kernel) rfl
theorem nz9 : Cond.initialized RX9 ∈ zTb := z_in 98 (by decide +kernel) rfl
theorem ni10 : Cond.instantiable RX10 21 ∈ zTb := z_in 942 (by decide +kernel) rfl
theorem nz10 : Cond.initialized RX10 ∈ zTb := z_in 108 (by decide +kernel) rfl
def RSys : String := "java/lang/System"
theorem la4_53 : Cond.methodLink RX4 53 arraycopyName ∈ zTb := z_in 544 (by decide +kernel) rfl
theorem la1_28 : Cond.methodLink RX1 28 arraycopyName ∈ zTb := z_in 551 (by decide +kernel) rfl
theorem la8_41 : Cond.methodLink RX8 41 arraycopyName ∈ zTb := z_in 635 (by decide +kernel) rfl
theorem la0_19 : Cond.methodLink RX0 19 arraycopyName ∈ zTb := z_in 909 (by decide +kernel) rfl
theorem la2_26 : Cond.methodLink RX2 26 arraycopyName ∈ zTb := z_in 919 (by decide +kernel) rfl
theorem lx6_304 : Cond.methodLink RX6 304 Lib.Math.max.name ∈ zTb := z_in 812 (by decide +kernel) rfl
theorem la6_96 : Cond.methodLink RX6 96 arraycopyName ∈ zTb := z_in 920 (by decide +kernel) rfl
theorem la10_173 : Cond.methodLink RX10 173 arraycopyName ∈ zTb := z_in 1172 (by decide +kernel) rfl
theorem lx10_226 : Cond.methodLink RX10 226 Lib.Math.max.name ∈ zTb := z_in 1236 (by decide +kernel) rfl
theorem lo9_1 : Cond.methodLink RX9 1 objectInit ∈ zTb := z_in 116 (by decide +kernel) rfl
theorem lo7_3 : Cond.methodLink RX7 3 objectInit ∈ zTb := z_in 124 (by decide +kernel) rfl
theorem lo5_3 : Cond.methodLink RX5 3 objectInit ∈ zTb := z_in 140 (by decide +kernel) rfl
theorem lo4_3 : Cond.methodLink RX4 3 objectInit ∈ zTb := z_in 146 (by decide +kernel) rfl
theorem lo1_3 : Cond.methodLink RX1 3 objectInit ∈ zTb := z_in 152 (by decide +kernel) rfl
theorem lo6_3 : Cond.methodLink RX6 3 objectInit ∈ zTb := z_in 245 (by decide +kernel) rfl
theorem lo0_3 : Cond.methodLink RX0 3 objectInit ∈ zTb := z_in 253 (by decide +kernel) rfl
theorem lo3_3 : Cond.methodLink RX3 3 objectInit ∈ zTb := z_in 268 (by decide +kernel) rfl
theorem lo2_3 : Cond.methodLink RX2 3 objectInit ∈ zTb := z_in 275 (by decide +kernel) rfl
theorem lo8_3 : Cond.methodLink RX8 3 objectInit ∈ zTb := z_in 281 (by decide +kernel) rfl
theorem lo10_3 : Cond.methodLink RX10 3 objectInit ∈ zTb := z_in 946 (by decide +kernel) rfl
theorem za_nat : Cond.native arraycopyName ∈ zTb := z_in 546 (by decide +kernel) rfl
theorem za_sta : Cond.static arraycopyName ∈ zTb := z_in 545 (by decide +kernel) rfl
theorem za_ini : Cond.initialized "java/lang/System" ∈ zTb := z_in 109 (by decide +kernel) rfl
theorem zx_sta : Cond.static Lib.Math.max.name ∈ zTb := z_in 813 (by decide +kernel) rfl
theorem zx_ini : Cond.initialized "java/lang/Math" ∈ zTb := z_in 110 (by decide +kernel) rfl
theorem zx_cod : Cond.code Lib.Math.max.name Lib.Math.max.code 2 (some .int) ∈ zTb := z_in 814 (by decide +kernel) rfl
theorem zo_ins : Cond.instanceMethod objectInit ∈ zTb := z_in 117 (by decide +kernel) rfl
theorem zo_cod : Cond.code objectInit ⟨#[0xb1]⟩ 1 none ∈ zTb := z_in 118 (by decide +kernel) rfl
theorem zi_arr : Cond.arrayClass FieldType.int ∈ zTb := z_in 134 (by decide +kernel) rfl
theorem zao4 : Cond.arrayOver (.object RX4) ∈ lw_tbl := List.mem_of_getElem? (i := 237) (by decide +kernel)
theorem zao6 : Cond.arrayOver (.object RX6) ∈ lw_tbl := List.mem_of_getElem? (i := 239) (by decide +kernel)
theorem zao2 : Cond.arrayOver (.object RX2) ∈ lw_tbl := List.mem_of_getElem? (i := 270) (by decide +kernel)
theorem zao8 : Cond.arrayOver (.object RX8) ∈ lw_tbl := List.mem_of_getElem? (i := 354) (by decide +kernel)
