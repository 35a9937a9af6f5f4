/-- which fields hold references, which truth values -/
def zfT : List (List Bool) := [[true, false], [true, true, true, false, false], [true, true, false, false, false, false], [true, false], [true, true, true, true, true, true, true, true, true, true, false], [true, true, true, true, false, false, false, false], [true, true, true, true, true, true, true, false, false, false, false, false, false, false], [true, false], [true, true, true, false, false, false, false, false], [true, true, true, true, true]]
def zbT : List (List Bool) := [[false, false], [false, false, false, false, false], [false, false, false, false, false, false], [false, false], [false, false, false, false, false, false, false, false, false, false, false], [false, false, false, false, false, false, true, true], [false, false, false, false, false, false, false, false, false, false, true, false, true, false], [false, false], [false, false, false, false, false, false, false, false], [false, false, false, false, false]]
def zfr (ci k : Nat) : Bool := (zfT.getD ci []).getD k false
def zfb (ci k : Nat) : Bool := (zbT.getD ci []).getD k false
def zNf (ci : Nat) : Nat := (zfT.getD ci []).length
/-- what is known of a class by its place in zCl -/
def zCF (ci : Nat) (C : String) (T : u_T) (N : Nat) (ty : Nat → FieldType) : Prop := zCl[ci]? = some (C, T, N) ∧ (∀ w ∈ u_ws C T N, w ∈ zTb) ∧ (∀ k, k < N → parseFieldDescriptor (T k).2.2.1 = some (ty k)) ∧ (∀ a, a < N → ∀ b, b < N → a ≠ b → (T a).2.1 ≠ (T b).2.1) ∧ N = zNf ci ∧ (∀ k, k < N → (zfr ci k = true ∧ ∀ a, narrow (ty k) (.ref a) = .ref a ∧ fits (ty k) (.ref a) = true ∧ defaultValue (ty k) = .null) ∨ (zfr ci k = false ∧ defaultValue (ty k) = .int 0 ∧ ∀ x : Int32, (zfb ci k = false ∨ x = 0 ∨ x = 1) → narrow (ty k) (.int x) = .int x ∧ fits (ty k) (.int x) = true))
def zFI (own : String) (idx ci k : Nat) : Prop := ∃ C T N ty, zCF ci C T N ty ∧ k < N ∧ (Cond.fieldLink own idx (T k).1 (T k).2.1 (T k).2.2.1 ∈ zTb ∨ ∃ host, Cond.fieldLinkNest own idx (T k).1 (T k).2.1 (T k).2.2.1 host ∈ lw_tbl)
/-- a field that is final is written by a method of its own class alone -/
def zFin (own : String) (ci k : Nat) : Prop := ∃ C T N ty, zCF ci C T N ty ∧ ((T k).2.2.2 = false ∨ ((T k).2.2.2 = true ∧ (T k).1 = own))
def zML (own : String) (idx : Nat) (y : MethodName) : Prop := Cond.methodLink own idx y ∈ zTb ∨ ∃ host, Cond.methodLinkNest own idx y host ∈ lw_tbl
theorem cf0 : zCF 0 RX0 TX0 2 tyX0 := ⟨rfl, inZ0, tyX0_ok, nmX0, rfl, fun k hk => by
  rcases (show k = 0 ∨ k = 1 by omega) with rfl | rfl
  · exact Or.inl ⟨rfl, fun a => ⟨rfl, rfl, rfl⟩⟩
  · exact Or.inr ⟨rfl, rfl, fun x _ => ⟨rfl, rfl⟩⟩
  ⟩
theorem cf1 : zCF 1 RX1 TX1 5 tyX1 := ⟨rfl, inZ1, tyX1_ok, nmX1, rfl, fun k hk => by
  rcases (show k = 0 ∨ k = 1 ∨ k = 2 ∨ k = 3 ∨ k = 4 by omega) with rfl | rfl | rfl | rfl | rfl
  · exact Or.inl ⟨rfl, fun a => ⟨rfl, rfl, rfl⟩⟩
  · exact Or.inl ⟨rfl, fun a => ⟨rfl, rfl, rfl⟩⟩
  · exact Or.inl ⟨rfl, fun a => ⟨rfl, rfl, rfl⟩⟩
  · exact Or.inr ⟨rfl, rfl, fun x _ => ⟨rfl, rfl⟩⟩
  · exact Or.inr ⟨rfl, rfl, fun x _ => ⟨rfl, rfl⟩⟩
  ⟩
theorem cf2 : zCF 2 RX2 TX2 6 tyX2 := ⟨rfl, inZ2, tyX2_ok, nmX2, rfl, fun k hk => by
  rcases (show k = 0 ∨ k = 1 ∨ k = 2 ∨ k = 3 ∨ k = 4 ∨ k = 5 by omega) with rfl | rfl | rfl | rfl | rfl | rfl
  · exact Or.inl ⟨rfl, fun a => ⟨rfl, rfl, rfl⟩⟩
  · exact Or.inl ⟨rfl, fun a => ⟨rfl, rfl, rfl⟩⟩
  · exact Or.inr ⟨rfl, rfl, fun x _ => ⟨rfl, rfl⟩⟩
  · exact Or.inr ⟨rfl, rfl, fun x _ => ⟨rfl, rfl⟩⟩
  · exact Or.inr ⟨rfl, rfl, fun x _ => ⟨rfl, rfl⟩⟩
  · exact Or.inr ⟨rfl, rfl, fun x _ => ⟨rfl, rfl⟩⟩
  ⟩
theorem cf3 : zCF 3 RX3 TX3 2 tyX3 := ⟨rfl, inZ3, tyX3_ok, nmX3, rfl, fun k hk => by
  rcases (show k = 0 ∨ k = 1 by omega) with rfl | rfl
  · exact Or.inl ⟨rfl, fun a => ⟨rfl, rfl, rfl⟩⟩
  · exact Or.inr ⟨rfl, rfl, fun x _ => ⟨rfl, rfl⟩⟩
  ⟩
theorem cf4 : zCF 4 RX4 TX4 11 tyX4 := ⟨rfl, inZ4, tyX4_ok, nmX4, rfl, fun k hk => by
  rcases (show k = 0 ∨ k = 1 ∨ k = 2 ∨ k = 3 ∨ k = 4 ∨ k = 5 ∨ k = 6 ∨ k = 7 ∨ k = 8 ∨ k = 9 ∨ k = 10 by omega) with rfl | rfl | rfl | rfl | rfl | rfl | rfl | rfl | rfl | rfl | rfl
  · exact Or.inl ⟨rfl, fun a => ⟨rfl, rfl, rfl⟩⟩
  · exact Or.inl ⟨rfl, fun a => ⟨rfl, rfl, rfl⟩⟩
  · exact Or.inl ⟨rfl, fun a => ⟨rfl, rfl, rfl⟩⟩
  · exact Or.inl ⟨rfl, fun a => ⟨rfl, rfl, rfl⟩⟩
  · exact Or.inl ⟨rfl, fun a => ⟨rfl, rfl, rfl⟩⟩
  · exact Or.inl ⟨rfl, fun a => ⟨rfl, rfl, rfl⟩⟩
  · exact Or.inl ⟨rfl, fun a => ⟨rfl, rfl, rfl⟩⟩
  · exact Or.inl ⟨rfl, fun a => ⟨rfl, rfl, rfl⟩⟩
  · exact Or.inl ⟨rfl, fun a => ⟨rfl, rfl, rfl⟩⟩
  · exact Or.inl ⟨rfl, fun a => ⟨rfl, rfl, rfl⟩⟩
  · exact Or.inr ⟨rfl, rfl, fun x _ => ⟨rfl, rfl⟩⟩
  ⟩
theorem cf5 : zCF 5 RX5 TX5 8 tyX5 := ⟨rfl, inZ5, tyX5_ok, nmX5, rfl, fun k hk => by
  rcases (show k = 0 ∨ k = 1 ∨ k = 2 ∨ k = 3 ∨ k = 4 ∨ k = 5 ∨ k = 6 ∨ k = 7 by omega) with rfl | rfl | rfl | rfl | rfl | rfl | rfl | rfl
  · exact Or.inl ⟨rfl, fun a => ⟨rfl, rfl, rfl⟩⟩
  · exact Or.inl ⟨rfl, fun a => ⟨rfl, rfl, rfl⟩⟩
  · exact Or.inl ⟨rfl, fun a => ⟨rfl, rfl, rfl⟩⟩
  · exact Or.inl ⟨rfl, fun a => ⟨rfl, rfl, rfl⟩⟩
  · exact Or.inr ⟨rfl, rfl, fun x _ => ⟨rfl, rfl⟩⟩
  · exact Or.inr ⟨rfl, rfl, fun x _ => ⟨rfl, rfl⟩⟩
  · exact Or.inr ⟨rfl, rfl, fun x hx => by rcases hx with h | rfl | rfl; · exact absurd h (by decide)
                                           · exact ⟨by decide, by decide⟩
                                           · exact ⟨by decide, by decide⟩⟩
  · exact Or.inr ⟨rfl, rfl, fun x hx => by rcases hx with h | rfl | rfl; · exact absurd h (by decide)
                                           · exact ⟨by decide, by decide⟩
                                           · exact ⟨by decide, by decide⟩⟩
  ⟩
theorem cf6 : zCF 6 RX6 TX6 14 tyX6 := ⟨rfl, inZ6, tyX6_ok, nmX6, rfl, fun k hk => by
  rcases (show k = 0 ∨ k = 1 ∨ k = 2 ∨ k = 3 ∨ k = 4 ∨ k = 5 ∨ k = 6 ∨ k = 7 ∨ k = 8 ∨ k = 9 ∨ k = 10 ∨ k = 11 ∨ k = 12 ∨ k = 13 by omega) with rfl | rfl | rfl | rfl | rfl | rfl | rfl | rfl | rfl | rfl | rfl | rfl | rfl | rfl
  · exact Or.inl ⟨rfl, fun a => ⟨rfl, rfl, rfl⟩⟩
  · exact Or.inl ⟨rfl, fun a => ⟨rfl, rfl, rfl⟩⟩
  · exact Or.inl ⟨rfl, fun a => ⟨rfl, rfl, rfl⟩⟩
  · exact Or.inl ⟨rfl, fun a => ⟨rfl, rfl, rfl⟩⟩
  · exact Or.inl ⟨rfl, fun a => ⟨rfl, rfl, rfl⟩⟩
  · exact Or.inl ⟨rfl, fun a => ⟨rfl, rfl, rfl⟩⟩
  · exact Or.inl ⟨rfl, fun a => ⟨rfl, rfl, rfl⟩⟩
  · exact Or.inr ⟨rfl, rfl, fun x _ => ⟨rfl, rfl⟩⟩
  · exact Or.inr ⟨rfl, rfl, fun x _ => ⟨rfl, rfl⟩⟩
  · exact Or.inr ⟨rfl, rfl, fun x _ => ⟨rfl, rfl⟩⟩
  · exact Or.inr ⟨rfl, rfl, fun x hx => by rcases hx with h | rfl | rfl; · exact absurd h (by decide)
                                           · exact ⟨by decide, by decide⟩
                                           · exact ⟨by decide, by decide⟩⟩
  · exact Or.inr ⟨rfl, rfl, fun x _ => ⟨rfl, rfl⟩⟩
  · exact Or.inr ⟨rfl, rfl, fun x hx => by rcases hx with h | rfl | rfl; · exact absurd h (by decide)
                                           · exact ⟨by decide, by decide⟩
                                           · exact ⟨by decide, by decide⟩⟩
  · exact Or.inr ⟨rfl, rfl, fun x _ => ⟨rfl, rfl⟩⟩
  ⟩
theorem cf7 : zCF 7 RX7 TX7 2 tyX7 := ⟨rfl, inZ7, tyX7_ok, nmX7, rfl, fun k hk => by
  rcases (show k = 0 ∨ k = 1 by omega) with rfl | rfl
  · exact Or.inl ⟨rfl, fun a => ⟨rfl, rfl, rfl⟩⟩
  · exact Or.inr ⟨rfl, rfl, fun x _ => ⟨rfl, rfl⟩⟩
  ⟩
theorem cf8 : zCF 8 RX8 TX8 8 tyX8 := ⟨rfl, inZ8, tyX8_ok, nmX8, rfl, fun k hk => by
  rcases (show k = 0 ∨ k = 1 ∨ k = 2 ∨ k = 3 ∨ k = 4 ∨ k = 5 ∨ k = 6 ∨ k = 7 by omega) with rfl | rfl | rfl | rfl | rfl | rfl | rfl | rfl
  · exact Or.inl ⟨rfl, fun a => ⟨rfl, rfl, rfl⟩⟩
  · exact Or.inl ⟨rfl, fun a => ⟨rfl, rfl, rfl⟩⟩
  · exact Or.inl ⟨rfl, fun a => ⟨rfl, rfl, rfl⟩⟩
  · exact Or.inr ⟨rfl, rfl, fun x _ => ⟨rfl, rfl⟩⟩
  · exact Or.inr ⟨rfl, rfl, fun x _ => ⟨rfl, rfl⟩⟩
  · exact Or.inr ⟨rfl, rfl, fun x _ => ⟨rfl, rfl⟩⟩
  · exact Or.inr ⟨rfl, rfl, fun x _ => ⟨rfl, rfl⟩⟩
  · exact Or.inr ⟨rfl, rfl, fun x _ => ⟨rfl, rfl⟩⟩
  ⟩
theorem cf9 : zCF 9 RX9 TX9 5 tyX9 := ⟨rfl, inZ9, tyX9_ok, nmX9, rfl, fun k hk => by
  rcases (show k = 0 ∨ k = 1 ∨ k = 2 ∨ k = 3 ∨ k = 4 by omega) with rfl | rfl | rfl | rfl | rfl
  · exact Or.inl ⟨rfl, fun a => ⟨rfl, rfl, rfl⟩⟩
  · exact Or.inl ⟨rfl, fun a => ⟨rfl, rfl, rfl⟩⟩
  · exact Or.inl ⟨rfl, fun a => ⟨rfl, rfl, rfl⟩⟩
  · exact Or.inl ⟨rfl, fun a => ⟨rfl, rfl, rfl⟩⟩
  · exact Or.inl ⟨rfl, fun a => ⟨rfl, rfl, rfl⟩⟩
  ⟩
def RL : String := "TrailSearchLaw"
theorem lcL_8 : Cond.classLink RL 8 RX9 ∈ zTb := z_in 53 (by decide +kernel) rfl
theorem lmL_10 : zML RL 10 yX9_init := Or.inl (z_in 55 (by decide +kernel) rfl)
theorem lc9_7 : Cond.classLink RX9 7 RX7 ∈ zTb := z_in 61 (by decide +kernel) rfl
theorem lm9_9 : zML RX9 9 yX7_init := Or.inl (z_in 63 (by decide +kernel) rfl)
theorem lf7_9 : zFI RX7 9 7 0 := ⟨_, _, _, _, cf7, by decide, Or.inl (z_in 67 (by decide +kernel) rfl)⟩
theorem lf7_15 : zFI RX7 15 7 1 := ⟨_, _, _, _, cf7, by decide, Or.inl (z_in 68 (by decide +kernel) rfl)⟩
theorem lf9_47 : zFI RX9 47 7 1 := ⟨_, _, _, _, cf7, by decide, Or.inr ⟨"TrailSearch", List.mem_of_getElem? (i := 69) (by decide +kernel)⟩⟩
theorem lf5_65 : zFI RX5 65 7 1 := ⟨_, _, _, _, cf7, by decide, Or.inr ⟨"TrailSearch", List.mem_of_getElem? (i := 70) (by decide +kernel)⟩⟩
theorem lc9_16 : Cond.classLink RX9 16 RX5 ∈ zTb := z_in 77 (by decide +kernel) rfl
theorem lm9_18 : zML RX9 18 yX5_init := Or.inl (z_in 79 (by decide +kernel) rfl)
theorem lc5_22 : Cond.classLink RX5 22 RX4 ∈ zTb := z_in 83 (by decide +kernel) rfl
theorem lm5_24 : zML RX5 24 yX4_init := Or.inl (z_in 85 (by decide +kernel) rfl)
theorem lc4_36 : Cond.classLink RX4 36 RX1 ∈ zTb := z_in 89 (by decide +kernel) rfl
theorem lm4_38 : zML RX4 38 yX1_init := Or.inl (z_in 91 (by decide +kernel) rfl)
theorem lf1_9 : zFI RX1 9 1 0 := ⟨_, _, _, _, cf1, by decide, Or.inl (z_in 95 (by decide +kernel) rfl)⟩
theorem lf1_15 : zFI RX1 15 1 1 := ⟨_, _, _, _, cf1, by decide, Or.inl (z_in 96 (by decide +kernel) rfl)⟩
theorem lf1_18 : zFI RX1 18 1 2 := ⟨_, _, _, _, cf1, by decide, Or.inl (z_in 97 (by decide +kernel) rfl)⟩
theorem lf1_21 : zFI RX1 21 1 3 := ⟨_, _, _, _, cf1, by decide, Or.inl (z_in 98 (by decide +kernel) rfl)⟩
theorem lf1_25 : zFI RX1 25 1 4 := ⟨_, _, _, _, cf1, by decide, Or.inl (z_in 99 (by decide +kernel) rfl)⟩
theorem lf4_63 : zFI RX4 63 1 4 := ⟨_, _, _, _, cf1, by decide, Or.inr ⟨"TrailSearch", List.mem_of_getElem? (i := 100) (by decide +kernel)⟩⟩
theorem lf4_9 : zFI RX4 9 4 0 := ⟨_, _, _, _, cf4, by decide, Or.inl (z_in 112 (by decide +kernel) rfl)⟩
theorem lf4_15 : zFI RX4 15 4 1 := ⟨_, _, _, _, cf4, by decide, Or.inl (z_in 113 (by decide +kernel) rfl)⟩
theorem lf4_18 : zFI RX4 18 4 2 := ⟨_, _, _, _, cf4, by decide, Or.inl (z_in 114 (by decide +kernel) rfl)⟩
theorem lf4_21 : zFI RX4 21 4 3 := ⟨_, _, _, _, cf4, by decide, Or.inl (z_in 115 (by decide +kernel) rfl)⟩
theorem lf4_24 : zFI RX4 24 4 4 := ⟨_, _, _, _, cf4, by decide, Or.inl (z_in 116 (by decide +kernel) rfl)⟩
theorem lf4_27 : zFI RX4 27 4 5 := ⟨_, _, _, _, cf4, by decide, Or.inl (z_in 117 (by decide +kernel) rfl)⟩
theorem lf4_30 : zFI RX4 30 4 6 := ⟨_, _, _, _, cf4, by decide, Or.inl (z_in 118 (by decide +kernel) rfl)⟩
theorem lf4_33 : zFI RX4 33 4 7 := ⟨_, _, _, _, cf4, by decide, Or.inl (z_in 119 (by decide +kernel) rfl)⟩
theorem lf4_39 : zFI RX4 39 4 8 := ⟨_, _, _, _, cf4, by decide, Or.inl (z_in 120 (by decide +kernel) rfl)⟩
theorem lf5_86 : zFI RX5 86 4 8 := ⟨_, _, _, _, cf4, by decide, Or.inr ⟨"TrailSearch", List.mem_of_getElem? (i := 121) (by decide +kernel)⟩⟩
theorem lf6_261 : zFI RX6 261 4 8 := ⟨_, _, _, _, cf4, by decide, Or.inr ⟨"TrailSearch", List.mem_of_getElem? (i := 122) (by decide +kernel)⟩⟩
theorem lf4_43 : zFI RX4 43 4 9 := ⟨_, _, _, _, cf4, by decide, Or.inl (z_in 123 (by decide +kernel) rfl)⟩
theorem lf5_57 : zFI RX5 57 4 9 := ⟨_, _, _, _, cf4, by decide, Or.inr ⟨"TrailSearch", List.mem_of_getElem? (i := 124) (by decide +kernel)⟩⟩
theorem lf9_74 : zFI RX9 74 4 9 := ⟨_, _, _, _, cf4, by decide, Or.inr ⟨"TrailSearch", List.mem_of_getElem? (i := 125) (by decide +kernel)⟩⟩
theorem lf4_46 : zFI RX4 46 4 10 := ⟨_, _, _, _, cf4, by decide, Or.inl (z_in 126 (by decide +kernel) rfl)⟩
theorem lf9_70 : zFI RX9 70 4 10 := ⟨_, _, _, _, cf4, by decide, Or.inr ⟨"TrailSearch", List.mem_of_getElem? (i := 127) (by decide +kernel)⟩⟩
theorem lf5_70 : zFI RX5 70 4 10 := ⟨_, _, _, _, cf4, by decide, Or.inr ⟨"TrailSearch", List.mem_of_getElem? (i := 128) (by decide +kernel)⟩⟩
theorem lf5_9 : zFI RX5 9 5 0 := ⟨_, _, _, _, cf5, by decide, Or.inl (z_in 152 (by decide +kernel) rfl)⟩
theorem lf5_15 : zFI RX5 15 5 1 := ⟨_, _, _, _, cf5, by decide, Or.inl (z_in 153 (by decide +kernel) rfl)⟩
theorem lf5_19 : zFI RX5 19 5 2 := ⟨_, _, _, _, cf5, by decide, Or.inl (z_in 154 (by decide +kernel) rfl)⟩
theorem lf5_25 : zFI RX5 25 5 3 := ⟨_, _, _, _, cf5, by decide, Or.inl (z_in 155 (by decide +kernel) rfl)⟩
theorem lf9_62 : zFI RX9 62 5 3 := ⟨_, _, _, _, cf5, by decide, Or.inr ⟨"TrailSearch", List.mem_of_getElem? (i := 156) (by decide +kernel)⟩⟩
theorem lf5_32 : zFI RX5 32 5 4 := ⟨_, _, _, _, cf5, by decide, Or.inl (z_in 157 (by decide +kernel) rfl)⟩
theorem lf5_36 : zFI RX5 36 5 5 := ⟨_, _, _, _, cf5, by decide, Or.inl (z_in 158 (by decide +kernel) rfl)⟩
theorem lf5_39 : zFI RX5 39 5 6 := ⟨_, _, _, _, cf5, by decide, Or.inl (z_in 159 (by decide +kernel) rfl)⟩
theorem lf5_43 : zFI RX5 43 5 7 := ⟨_, _, _, _, cf5, by decide, Or.inl (z_in 160 (by decide +kernel) rfl)⟩
theorem lc9_25 : Cond.classLink RX9 25 RX4 ∈ zTb := z_in 178 (by decide +kernel) rfl
theorem lc9_31 : Cond.classLink RX9 31 RX6 ∈ zTb := z_in 180 (by decide +kernel) rfl
theorem lm9_37 : zML RX9 37 yX4_init := Or.inl (z_in 182 (by decide +kernel) rfl)
theorem lm9_38 : zML RX9 38 yX6_init := Or.inl (z_in 184 (by decide +kernel) rfl)
theorem lc6_9 : Cond.classLink RX6 9 RX4 ∈ zTb := z_in 188 (by decide +kernel) rfl
theorem lm6_11 : zML RX6 11 yX4_init := Or.inl (z_in 189 (by decide +kernel) rfl)
theorem lc6_18 : Cond.classLink RX6 18 RX0 ∈ zTb := z_in 190 (by decide +kernel) rfl
theorem lm6_20 : zML RX6 20 yX0_init := Or.inl (z_in 192 (by decide +kernel) rfl)
theorem lf0_9 : zFI RX0 9 0 0 := ⟨_, _, _, _, cf0, by decide, Or.inl (z_in 196 (by decide +kernel) rfl)⟩
theorem lf6_60 : zFI RX6 60 0 1 := ⟨_, _, _, _, cf0, by decide, Or.inr ⟨"TrailSearch", List.mem_of_getElem? (i := 197) (by decide +kernel)⟩⟩
theorem lf0_15 : zFI RX0 15 0 1 := ⟨_, _, _, _, cf0, by decide, Or.inl (z_in 198 (by decide +kernel) rfl)⟩
theorem lf9_102 : zFI RX9 102 0 1 := ⟨_, _, _, _, cf0, by decide, Or.inr ⟨"TrailSearch", List.mem_of_getElem? (i := 199) (by decide +kernel)⟩⟩
theorem lc6_25 : Cond.classLink RX6 25 RX3 ∈ zTb := z_in 205 (by decide +kernel) rfl
theorem lm6_27 : zML RX6 27 yX3_init := Or.inl (z_in 207 (by decide +kernel) rfl)
theorem lc3_9 : Cond.classLink RX3 9 RX2 ∈ zTb := z_in 211 (by decide +kernel) rfl
theorem lm3_17 : zML RX3 17 yX2_init := Or.inl (z_in 214 (by decide +kernel) rfl)
theorem lc2_9 : Cond.classLink RX2 9 RX8 ∈ zTb := z_in 218 (by decide +kernel) rfl
theorem lm2_11 : zML RX2 11 yX8_init := Or.inl (z_in 220 (by decide +kernel) rfl)
theorem lf8_9 : zFI RX8 9 8 0 := ⟨_, _, _, _, cf8, by decide, Or.inl (z_in 224 (by decide +kernel) rfl)⟩
theorem lf6_234 : zFI RX6 234 8 0 := ⟨_, _, _, _, cf8, by decide, Or.inr ⟨"TrailSearch", List.mem_of_getElem? (i := 225) (by decide +kernel)⟩⟩
theorem lf8_15 : zFI RX8 15 8 1 := ⟨_, _, _, _, cf8, by decide, Or.inl (z_in 226 (by decide +kernel) rfl)⟩
theorem lf8_18 : zFI RX8 18 8 2 := ⟨_, _, _, _, cf8, by decide, Or.inl (z_in 227 (by decide +kernel) rfl)⟩
theorem lf8_21 : zFI RX8 21 8 3 := ⟨_, _, _, _, cf8, by decide, Or.inl (z_in 228 (by decide +kernel) rfl)⟩
theorem lf6_120 : zFI RX6 120 8 3 := ⟨_, _, _, _, cf8, by decide, Or.inr ⟨"TrailSearch", List.mem_of_getElem? (i := 229) (by decide +kernel)⟩⟩
theorem lf8_25 : zFI RX8 25 8 4 := ⟨_, _, _, _, cf8, by decide, Or.inl (z_in 230 (by decide +kernel) rfl)⟩
theorem lf6_212 : zFI RX6 212 8 4 := ⟨_, _, _, _, cf8, by decide, Or.inr ⟨"TrailSearch", List.mem_of_getElem? (i := 231) (by decide +kernel)⟩⟩
theorem lf8_28 : zFI RX8 28 8 5 := ⟨_, _, _, _, cf8, by decide, Or.inl (z_in 232 (by decide +kernel) rfl)⟩
theorem lf0_35 : zFI RX0 35 8 5 := ⟨_, _, _, _, cf8, by decide, Or.inr ⟨"TrailSearch", List.mem_of_getElem? (i := 233) (by decide +kernel)⟩⟩
theorem lf3_43 : zFI RX3 43 8 5 := ⟨_, _, _, _, cf8, by decide, Or.inr ⟨"TrailSearch", List.mem_of_getElem? (i := 234) (by decide +kernel)⟩⟩
theorem lf6_173 : zFI RX6 173 8 5 := ⟨_, _, _, _, cf8, by decide, Or.inr ⟨"TrailSearch", List.mem_of_getElem? (i := 235) (by decide +kernel)⟩⟩
theorem lf8_31 : zFI RX8 31 8 6 := ⟨_, _, _, _, cf8, by decide, Or.inl (z_in 236 (by decide +kernel) rfl)⟩
theorem lf0_38 : zFI RX0 38 8 6 := ⟨_, _, _, _, cf8, by decide, Or.inr ⟨"TrailSearch", List.mem_of_getElem? (i := 237) (by decide +kernel)⟩⟩
theorem lf2_48 : zFI RX2 48 8 6 := ⟨_, _, _, _, cf8, by decide, Or.inr ⟨"TrailSearch", List.mem_of_getElem? (i := 238) (by decide +kernel)⟩⟩
theorem lf6_176 : zFI RX6 176 8 6 := ⟨_, _, _, _, cf8, by decide, Or.inr ⟨"TrailSearch", List.mem_of_getElem? (i := 239) (by decide +kernel)⟩⟩
theorem lf8_34 : zFI RX8 34 8 7 := ⟨_, _, _, _, cf8, by decide, Or.inl (z_in 240 (by decide +kernel) rfl)⟩
theorem lf3_30 : zFI RX3 30 8 7 := ⟨_, _, _, _, cf8, by decide, Or.inr ⟨"TrailSearch", List.mem_of_getElem? (i := 241) (by decide +kernel)⟩⟩
theorem lf6_170 : zFI RX6 170 8 7 := ⟨_, _, _, _, cf8, by decide, Or.inr ⟨"TrailSearch", List.mem_of_getElem? (i := 242) (by decide +kernel)⟩⟩
theorem lf2_12 : zFI RX2 12 2 0 := ⟨_, _, _, _, cf2, by decide, Or.inl (z_in 260 (by decide +kernel) rfl)⟩
theorem lf3_26 : zFI RX3 26 2 0 := ⟨_, _, _, _, cf2, by decide, Or.inr ⟨"TrailSearch", List.mem_of_getElem? (i := 261) (by decide +kernel)⟩⟩
theorem lf6_147 : zFI RX6 147 2 0 := ⟨_, _, _, _, cf2, by decide, Or.inr ⟨"TrailSearch", List.mem_of_getElem? (i := 262) (by decide +kernel)⟩⟩
theorem lf2_18 : zFI RX2 18 2 1 := ⟨_, _, _, _, cf2, by decide, Or.inl (z_in 263 (by decide +kernel) rfl)⟩
theorem lf6_309 : zFI RX6 309 2 1 := ⟨_, _, _, _, cf2, by decide, Or.inr ⟨"TrailSearch", List.mem_of_getElem? (i := 264) (by decide +kernel)⟩⟩
theorem lf6_193 : zFI RX6 193 2 2 := ⟨_, _, _, _, cf2, by decide, Or.inr ⟨"TrailSearch", List.mem_of_getElem? (i := 265) (by decide +kernel)⟩⟩
theorem lf2_36 : zFI RX2 36 2 3 := ⟨_, _, _, _, cf2, by decide, Or.inl (z_in 266 (by decide +kernel) rfl)⟩
theorem lf6_291 : zFI RX6 291 2 3 := ⟨_, _, _, _, cf2, by decide, Or.inr ⟨"TrailSearch", List.mem_of_getElem? (i := 267) (by decide +kernel)⟩⟩
theorem lf2_39 : zFI RX2 39 2 4 := ⟨_, _, _, _, cf2, by decide, Or.inl (z_in 268 (by decide +kernel) rfl)⟩
theorem lf6_167 : zFI RX6 167 2 4 := ⟨_, _, _, _, cf2, by decide, Or.inr ⟨"TrailSearch", List.mem_of_getElem? (i := 269) (by decide +kernel)⟩⟩
theorem lf2_42 : zFI RX2 42 2 5 := ⟨_, _, _, _, cf2, by decide, Or.inl (z_in 270 (by decide +kernel) rfl)⟩
theorem lf6_301 : zFI RX6 301 2 5 := ⟨_, _, _, _, cf2, by decide, Or.inr ⟨"TrailSearch", List.mem_of_getElem? (i := 271) (by decide +kernel)⟩⟩
theorem lf3_11 : zFI RX3 11 3 0 := ⟨_, _, _, _, cf3, by decide, Or.inl (z_in 285 (by decide +kernel) rfl)⟩
theorem lf6_63 : zFI RX6 63 3 1 := ⟨_, _, _, _, cf3, by decide, Or.inr ⟨"TrailSearch", List.mem_of_getElem? (i := 286) (by decide +kernel)⟩⟩
theorem lf3_18 : zFI RX3 18 3 1 := ⟨_, _, _, _, cf3, by decide, Or.inl (z_in 287 (by decide +kernel) rfl)⟩
theorem lc6_35 : Cond.classLink RX6 35 RX8 ∈ zTb := z_in 293 (by decide +kernel) rfl
theorem lm6_41 : zML RX6 41 yX8_init := Or.inl (z_in 295 (by decide +kernel) rfl)
theorem lf6_12 : zFI RX6 12 6 0 := ⟨_, _, _, _, cf6, by decide, Or.inl (z_in 296 (by decide +kernel) rfl)⟩
theorem lf6_21 : zFI RX6 21 6 1 := ⟨_, _, _, _, cf6, by decide, Or.inl (z_in 297 (by decide +kernel) rfl)⟩
theorem lf9_98 : zFI RX9 98 6 1 := ⟨_, _, _, _, cf6, by decide, Or.inr ⟨"TrailSearch", List.mem_of_getElem? (i := 298) (by decide +kernel)⟩⟩
theorem lf6_28 : zFI RX6 28 6 2 := ⟨_, _, _, _, cf6, by decide, Or.inl (z_in 299 (by decide +kernel) rfl)⟩
theorem lf6_32 : zFI RX6 32 6 3 := ⟨_, _, _, _, cf6, by decide, Or.inl (z_in 300 (by decide +kernel) rfl)⟩
theorem lf6_37 : zFI RX6 37 6 4 := ⟨_, _, _, _, cf6, by decide, Or.inl (z_in 301 (by decide +kernel) rfl)⟩
theorem lf6_42 : zFI RX6 42 6 5 := ⟨_, _, _, _, cf6, by decide, Or.inl (z_in 302 (by decide +kernel) rfl)⟩
theorem lf6_46 : zFI RX6 46 6 6 := ⟨_, _, _, _, cf6, by decide, Or.inl (z_in 303 (by decide +kernel) rfl)⟩
theorem lf6_57 : zFI RX6 57 6 7 := ⟨_, _, _, _, cf6, by decide, Or.inl (z_in 304 (by decide +kernel) rfl)⟩
theorem lf9_91 : zFI RX9 91 6 7 := ⟨_, _, _, _, cf6, by decide, Or.inr ⟨"TrailSearch", List.mem_of_getElem? (i := 305) (by decide +kernel)⟩⟩
theorem lf6_53 : zFI RX6 53 6 8 := ⟨_, _, _, _, cf6, by decide, Or.inl (z_in 306 (by decide +kernel) rfl)⟩
theorem lf6_64 : zFI RX6 64 6 9 := ⟨_, _, _, _, cf6, by decide, Or.inl (z_in 307 (by decide +kernel) rfl)⟩
theorem lf6_70 : zFI RX6 70 6 10 := ⟨_, _, _, _, cf6, by decide, Or.inl (z_in 308 (by decide +kernel) rfl)⟩
theorem lf6_74 : zFI RX6 74 6 11 := ⟨_, _, _, _, cf6, by decide, Or.inl (z_in 309 (by decide +kernel) rfl)⟩
theorem lf6_77 : zFI RX6 77 6 12 := ⟨_, _, _, _, cf6, by decide, Or.inl (z_in 310 (by decide +kernel) rfl)⟩
theorem lf6_112 : zFI RX6 112 6 13 := ⟨_, _, _, _, cf6, by decide, Or.inl (z_in 311 (by decide +kernel) rfl)⟩
theorem lf9_10 : zFI RX9 10 9 0 := ⟨_, _, _, _, cf9, by decide, Or.inl (z_in 341 (by decide +kernel) rfl)⟩
theorem lf9_21 : zFI RX9 21 9 1 := ⟨_, _, _, _, cf9, by decide, Or.inl (z_in 342 (by decide +kernel) rfl)⟩
theorem lf9_27 : zFI RX9 27 9 2 := ⟨_, _, _, _, cf9, by decide, Or.inl (z_in 343 (by decide +kernel) rfl)⟩
theorem lf9_33 : zFI RX9 33 9 3 := ⟨_, _, _, _, cf9, by decide, Or.inl (z_in 344 (by decide +kernel) rfl)⟩
theorem lf9_39 : zFI RX9 39 9 4 := ⟨_, _, _, _, cf9, by decide, Or.inl (z_in 345 (by decide +kernel) rfl)⟩
theorem lmL_17 : zML RL 17 yX9_feed := Or.inl (z_in 357 (by decide +kernel) rfl)
theorem lm9_43 : zML RX9 43 yX7_add := Or.inl (z_in 361 (by decide +kernel) rfl)
theorem lmL_25 : zML RL 25 yX9_program := Or.inl (z_in 365 (by decide +kernel) rfl)
theorem lm9_51 : zML RX9 51 yX9_programAt := Or.inl (z_in 369 (by decide +kernel) rfl)
theorem lm9_55 : zML RX9 55 yX5_readProgram := Or.inl (z_in 373 (by decide +kernel) rfl)
theorem lm5_29 : zML RX5 29 yX4_clear := Or.inl (z_in 377 (by decide +kernel) rfl)
theorem lm4_50 : zML RX4 50 yX1_clear := Or.inl (z_in 381 (by decide +kernel) rfl)
theorem lm5_46 : zML RX5 46 yX5_setBefore := Or.inl (z_in 385 (by decide +kernel) rfl)
theorem lm5_50 : zML RX5 50 yX5_readStatement := Or.inl (z_in 389 (by decide +kernel) rfl)
theorem lm5_71 : zML RX5 71 yX7_at := Or.inl (z_in 393 (by decide +kernel) rfl)
theorem lm5_75 : zML RX5 75 yX5_addStatement := Or.inl (z_in 397 (by decide +kernel) rfl)
theorem lm5_95 : zML RX5 95 yX4_addStatement := Or.inl (z_in 401 (by decide +kernel) rfl)
theorem lm5_98 : zML RX5 98 yX4_linkFirst := Or.inl (z_in 405 (by decide +kernel) rfl)
theorem lm4_65 : zML RX4 65 yX4_has := Or.inl (z_in 409 (by decide +kernel) rfl)
theorem lm5_102 : zML RX5 102 yX4_linkBehind := Or.inl (z_in 413 (by decide +kernel) rfl)
theorem lm5_79 : zML RX5 79 yX5_openBracket := Or.inl (z_in 417 (by decide +kernel) rfl)
theorem lm5_105 : zML RX5 105 yX4_addPart := Or.inl (z_in 421 (by decide +kernel) rfl)
theorem lm5_83 : zML RX5 83 yX5_isVariable := Or.inl (z_in 425 (by decide +kernel) rfl)
theorem lm5_61 : zML RX5 61 yX5_readFormula := Or.inl (z_in 428 (by decide +kernel) rfl)
theorem lm5_117 : zML RX5 117 yX1_startFormula := Or.inl (z_in 432 (by decide +kernel) rfl)
theorem lm5_122 : zML RX5 122 yX5_readFactor := Or.inl (z_in 436 (by decide +kernel) rfl)
theorem lm5_129 : zML RX5 129 yX1_addFactor := Or.inl (z_in 440 (by decide +kernel) rfl)
theorem lm5_111 : zML RX5 111 yX5_isDigit := Or.inl (z_in 444 (by decide +kernel) rfl)
theorem lm5_126 : zML RX5 126 yX5_joinOf := Or.inl (z_in 447 (by decide +kernel) rfl)
theorem lm5_89 : zML RX5 89 yX5_readChoose := Or.inl (z_in 450 (by decide +kernel) rfl)
theorem lm5_108 : zML RX5 108 yX5_readSign := Or.inl (z_in 454 (by decide +kernel) rfl)
theorem lm5_92 : zML RX5 92 yX5_readTest := Or.inl (z_in 458 (by decide +kernel) rfl)
theorem lm5_114 : zML RX5 114 yX4_setDetail := Or.inl (z_in 462 (by decide +kernel) rfl)
theorem lm5_54 : zML RX5 54 yX5_readBehind := Or.inl (z_in 466 (by decide +kernel) rfl)
theorem lm5_133 : zML RX5 133 yX4_kindOf := Or.inl (z_in 470 (by decide +kernel) rfl)
theorem lm9_59 : zML RX9 59 yX7_clear := Or.inl (z_in 474 (by decide +kernel) rfl)
theorem lm9_66 : zML RX9 66 yX4_become := Or.inl (z_in 478 (by decide +kernel) rfl)
theorem lm4_59 : zML RX4 59 yX1_become := Or.inl (z_in 485 (by decide +kernel) rfl)
theorem lmL_28 : zML RL 28 yX9_cost := Or.inl (z_in 490 (by decide +kernel) rfl)
theorem lm9_71 : zML RX9 71 yX5_readCost := Or.inl (z_in 494 (by decide +kernel) rfl)
theorem lm9_78 : zML RX9 78 yX1_become := Or.inl (z_in 498 (by decide +kernel) rfl)
theorem lmL_31 : zML RL 31 yX9_begin := Or.inl (z_in 499 (by decide +kernel) rfl)
theorem lm9_83 : zML RX9 83 yX9_searchAt := Or.inl (z_in 503 (by decide +kernel) rfl)
theorem lm9_87 : zML RX9 87 yX6_start := Or.inl (z_in 507 (by decide +kernel) rfl)
theorem lm6_49 : zML RX6 49 yX4_become := Or.inl (z_in 511 (by decide +kernel) rfl)
theorem lm6_67 : zML RX6 67 yX6_startWay := Or.inl (z_in 512 (by decide +kernel) rfl)
theorem lm6_80 : zML RX6 80 yX6_currentWay := Or.inl (z_in 516 (by decide +kernel) rfl)
theorem lm6_84 : zML RX6 84 yX8_start := Or.inl (z_in 520 (by decide +kernel) rfl)
theorem lm8_37 : zML RX8 37 yX8_setMark := Or.inl (z_in 524 (by decide +kernel) rfl)
theorem lmL_42 : zML RL 42 yX9_go := Or.inl (z_in 528 (by decide +kernel) rfl)
theorem lm9_94 : zML RX9 94 yX6_run := Or.inl (z_in 532 (by decide +kernel) rfl)
theorem li6_115 : Cond.constant RX6 115 1000000 ∈ zTb := z_in 536 (by decide +kernel) rfl
theorem lm6_116 : zML RX6 116 yX6_goBack := Or.inl (z_in 537 (by decide +kernel) rfl)
theorem lm6_137 : zML RX6 137 yX6_goBackInNot := Or.inl (z_in 541 (by decide +kernel) rfl)
theorem lm6_158 : zML RX6 158 yX6_baseOfNot := Or.inl (z_in 545 (by decide +kernel) rfl)
theorem lm6_161 : zML RX6 161 yX4_behind := Or.inl (z_in 549 (by decide +kernel) rfl)
theorem lm6_126 : zML RX6 126 yX6_spend := Or.inl (z_in 553 (by decide +kernel) rfl)
theorem lm6_133 : zML RX6 133 yX6_tally := Or.inl (z_in 557 (by decide +kernel) rfl)
theorem lm6_154 : zML RX6 154 yX6_take := Or.inl (z_in 561 (by decide +kernel) rfl)
theorem lm6_102 : zML RX6 102 yX3_openAt := Or.inl (z_in 565 (by decide +kernel) rfl)
theorem lm6_93 : zML RX6 93 yX8_become := Or.inl (z_in 569 (by decide +kernel) rfl)
theorem lm6_179 : zML RX6 179 yX4_kindOf := Or.inl (z_in 574 (by decide +kernel) rfl)
theorem lm6_182 : zML RX6 182 yX4_partFirst := Or.inl (z_in 575 (by decide +kernel) rfl)
theorem lm6_186 : zML RX6 186 yX4_levelOf := Or.inl (z_in 579 (by decide +kernel) rfl)
theorem lm6_189 : zML RX6 189 yX8_enter := Or.inl (z_in 583 (by decide +kernel) rfl)
theorem lm6_196 : zML RX6 196 yX2_amongAt := Or.inl (z_in 587 (by decide +kernel) rfl)
theorem lm6_199 : zML RX6 199 yX4_detailOf := Or.inl (z_in 591 (by decide +kernel) rfl)
theorem lm6_202 : zML RX6 202 yX8_setValue := Or.inl (z_in 595 (by decide +kernel) rfl)
theorem lm6_205 : zML RX6 205 yX2_left := Or.inl (z_in 599 (by decide +kernel) rfl)
theorem lm6_208 : zML RX6 208 yX3_remove := Or.inl (z_in 603 (by decide +kernel) rfl)
theorem lm3_35 : zML RX3 35 yX3_withoutBit := Or.inl (z_in 607 (by decide +kernel) rfl)
theorem lm6_141 : zML RX6 141 yX6_goDeeper := Or.inl (z_in 610 (by decide +kernel) rfl)
theorem lm6_164 : zML RX6 164 yX6_finish := Or.inl (z_in 614 (by decide +kernel) rfl)
theorem lm6_144 : zML RX6 144 yX6_chosen := Or.inl (z_in 618 (by decide +kernel) rfl)
theorem lm6_106 : zML RX6 106 yX2_weight := Or.inl (z_in 622 (by decide +kernel) rfl)
theorem lm6_151 : zML RX6 151 yX8_unlikeValues := Or.inl (z_in 626 (by decide +kernel) rfl)
theorem lm8_47 : zML RX8 47 yX8_valueOf := Or.inl (z_in 630 (by decide +kernel) rfl)
theorem lm6_123 : zML RX6 123 yX6_endPart := Or.inl (z_in 634 (by decide +kernel) rfl)
theorem lm6_215 : zML RX6 215 yX6_through := Or.inl (z_in 638 (by decide +kernel) rfl)
theorem lm6_237 : zML RX6 237 yX4_priceOf := Or.inl (z_in 642 (by decide +kernel) rfl)
theorem lm4_69 : zML RX4 69 yX1_worth := Or.inl (z_in 646 (by decide +kernel) rfl)
theorem li1_34 : Cond.constant RX1 34 999999 ∈ zTb := z_in 650 (by decide +kernel) rfl
theorem lm1_35 : zML RX1 35 yX1_endOf := Or.inl (z_in 651 (by decide +kernel) rfl)
theorem lm1_39 : zML RX1 39 yX1_factorWorth := Or.inl (z_in 655 (by decide +kernel) rfl)
theorem lm1_43 : zML RX1 43 yX1_joinAt := Or.inl (z_in 659 (by decide +kernel) rfl)
theorem lm1_46 : zML RX1 46 yX9_isValue := Or.inr ⟨"TrailSearch", List.mem_of_getElem? (i := 663) (by decide +kernel)⟩
theorem lm6_241 : zML RX6 241 yX6_tell := Or.inl (z_in 666 (by decide +kernel) rfl)
theorem lm6_244 : zML RX6 244 yX0_add := Or.inl (z_in 670 (by decide +kernel) rfl)
theorem lm0_25 : zML RX0 25 yX8_valueOf := Or.inl (z_in 674 (by decide +kernel) rfl)
theorem lm0_31 : zML RX0 31 yX0_setField := Or.inl (z_in 675 (by decide +kernel) rfl)
theorem lm6_218 : zML RX6 218 yX8_roundsAt := Or.inl (z_in 679 (by decide +kernel) rfl)
theorem lm6_221 : zML RX6 221 yX8_setRounds := Or.inl (z_in 683 (by decide +kernel) rfl)
theorem lm6_224 : zML RX6 224 yX8_markAt := Or.inl (z_in 687 (by decide +kernel) rfl)
theorem lm6_227 : zML RX6 227 yX6_drop := Or.inl (z_in 691 (by decide +kernel) rfl)
theorem lm6_282 : zML RX6 282 yX3_drop := Or.inl (z_in 695 (by decide +kernel) rfl)
theorem lm3_39 : zML RX3 39 yX3_openAt := Or.inl (z_in 699 (by decide +kernel) rfl)
theorem lm3_46 : zML RX3 46 yX3_remove := Or.inl (z_in 700 (by decide +kernel) rfl)
theorem lm6_231 : zML RX6 231 yX4_around := Or.inl (z_in 701 (by decide +kernel) rfl)
theorem lm6_130 : zML RX6 130 yX6_beginStatement := Or.inl (z_in 705 (by decide +kernel) rfl)
theorem lm6_248 : zML RX6 248 yX6_assign := Or.inl (z_in 709 (by decide +kernel) rfl)
theorem lm6_265 : zML RX6 265 yX4_formulaOf := Or.inl (z_in 713 (by decide +kernel) rfl)
theorem lm6_268 : zML RX6 268 yX1_worth := Or.inl (z_in 717 (by decide +kernel) rfl)
theorem li6_274 : Cond.constant RX6 274 999999 ∈ zTb := z_in 718 (by decide +kernel) rfl
theorem lm6_275 : zML RX6 275 yX6_endWay := Or.inl (z_in 719 (by decide +kernel) rfl)
theorem lm6_252 : zML RX6 252 yX6_test := Or.inl (z_in 723 (by decide +kernel) rfl)
theorem lm6_278 : zML RX6 278 yX6_isSo := Or.inl (z_in 727 (by decide +kernel) rfl)
theorem lm6_255 : zML RX6 255 yX6_choose := Or.inl (z_in 730 (by decide +kernel) rfl)
theorem lm6_284 : zML RX6 284 yX3_spare := Or.inl (z_in 734 (by decide +kernel) rfl)
theorem lm6_288 : zML RX6 288 yX4_partsOf := Or.inl (z_in 738 (by decide +kernel) rfl)
theorem lm6_294 : zML RX6 294 yX6_prepareUpTo := Or.inl (z_in 742 (by decide +kernel) rfl)
theorem lm6_298 : zML RX6 298 yX6_prepareAmong := Or.inl (z_in 746 (by decide +kernel) rfl)
theorem lm6_258 : zML RX6 258 yX6_beginNot := Or.inl (z_in 753 (by decide +kernel) rfl)
theorem lmL_45 : zML RL 45 yX9_all := Or.inl (z_in 757 (by decide +kernel) rfl)
theorem lmL_35 : zML RL 35 yX9_of := Or.inl (z_in 761 (by decide +kernel) rfl)
theorem lm9_105 : zML RX9 105 yX6_tell := Or.inl (z_in 765 (by decide +kernel) rfl)
theorem lmL_48 : zML RL 48 yX9_answer := Or.inl (z_in 766 (by decide +kernel) rfl)
theorem lm9_109 : zML RX9 109 yX0_field := Or.inl (z_in 770 (by decide +kernel) rfl)
theorem lmL_39 : zML RL 39 yX9_next := Or.inl (z_in 774 (by decide +kernel) rfl)
theorem lm9_126 : zML RX9 126 yX6_mayTake := Or.inl (z_in 778 (by decide +kernel) rfl)
theorem lm9_130 : zML RX9 130 yX6_chosen := Or.inl (z_in 782 (by decide +kernel) rfl)
theorem lmL_51 : zML RL 51 yX9_ordered := Or.inl (z_in 783 (by decide +kernel) rfl)
theorem lm9_133 : zML RX9 133 yX0_ranked := Or.inl (z_in 787 (by decide +kernel) rfl)
theorem lm0_41 : zML RX0 41 yX0_rankOf := Or.inl (z_in 791 (by decide +kernel) rfl)
theorem lm0_44 : zML RX0 44 yX0_field := Or.inl (z_in 795 (by decide +kernel) rfl)
theorem lmL_54 : zML RL 54 yX9_common := Or.inl (z_in 796 (by decide +kernel) rfl)
theorem lm9_136 : zML RX9 136 yX0_sharedWith := Or.inl (z_in 800 (by decide +kernel) rfl)
theorem lm0_48 : zML RX0 48 yX0_hasLike := Or.inl (z_in 804 (by decide +kernel) rfl)
theorem lm0_52 : zML RX0 52 yX0_alike := Or.inl (z_in 808 (by decide +kernel) rfl)
theorem lmL_57 : zML RL 57 yX9_unlike := Or.inl (z_in 812 (by decide +kernel) rfl)
theorem lm9_140 : zML RX9 140 yX0_different := Or.inl (z_in 816 (by decide +kernel) rfl)
theorem liL_7 : Cond.constant RL 7 40503 ∈ zTb := z_in 823 (by decide +kernel) rfl
theorem ni0 : Cond.instantiable RX0 2 ∈ zTb := z_in 191 (by decide +kernel) rfl
theorem nz0 : Cond.initialized RX0 ∈ zTb := z_in 47 (by decide +kernel) rfl
theorem ni1 : Cond.instantiable RX1 5 ∈ zTb := z_in 90 (by decide +kernel) rfl
theorem nz1 : Cond.initialized RX1 ∈ zTb := z_in 45 (by decide +kernel) rfl
theorem ni2 : Cond.instantiable RX2 6 ∈ zTb := z_in 213 (by decide +kernel) rfl
theorem nz2 : Cond.initialized RX2 ∈ zTb := z_in 49 (by decide +kernel) rfl
theorem ni3 : Cond.instantiable RX3 2 ∈ zTb := z_in 206 (by decide +kernel) rfl
theorem nz3 : Cond.initialized RX3 ∈ zTb := z_in 48 (by decide +kernel) rfl
theorem ni4 : Cond.instantiable RX4 11 ∈ zTb := z_in 84 (by decide +kernel) rfl
theorem nz4 : Cond.initialized RX4 ∈ zTb := z_in 44 (by decide +kernel) rfl
theorem ni5 : Cond.instantiable RX5 8 ∈ zTb := z_in 78 (by decide +kernel) rfl
theorem nz5 : Cond.initialized RX5 ∈ zTb := z_in 43 (by decide +kernel) rfl
theorem ni6 : Cond.instantiable RX6 14 ∈ zTb := z_in 183 (by decide +kernel) rfl
theorem nz6 : Cond.initialized RX6 ∈ zTb := z_in 46 (by decide +kernel) rfl
theorem ni7 : Cond.instantiable RX7 2 ∈ zTb := z_in 62 (by decide +kernel) rfl
theorem nz7 : Cond.initialized RX7 ∈ zTb := z_in 42 (by decide +kernel) rfl
theorem ni8 : Cond.instantiable RX8 8 ∈ zTb := z_in 219 (by decide +kernel) rfl
theorem nz8 : Cond.initialized RX8 ∈ zTb := z_in 50 (by decide +kernel) rfl
theorem ni9 : Cond.instantiable RX9 5 ∈ zTb := z_in 54 (by decide +kernel) rfl
theorem nz9 : Cond.initialized RX9 ∈ zTb := z_in 41 (by decide +kernel) rfl
def RSys : String := "java/lang/System"
theorem la4_53 : Cond.methodLink RX4 53 arraycopyName ∈ zTb := z_in 482 (by decide +kernel) rfl
theorem la1_28 : Cond.methodLink RX1 28 arraycopyName ∈ zTb := z_in 489 (by decide +kernel) rfl
theorem la8_41 : Cond.methodLink RX8 41 arraycopyName ∈ zTb := z_in 573 (by decide +kernel) rfl
theorem lx6_304 : Cond.methodLink RX6 304 Lib.Math.max.name ∈ zTb := z_in 750 (by decide +kernel) rfl
theorem lo9_1 : Cond.methodLink RX9 1 objectInit ∈ zTb := z_in 58 (by decide +kernel) rfl
theorem lo7_3 : Cond.methodLink RX7 3 objectInit ∈ zTb := z_in 66 (by decide +kernel) rfl
theorem lo5_3 : Cond.methodLink RX5 3 objectInit ∈ zTb := z_in 82 (by decide +kernel) rfl
theorem lo4_3 : Cond.methodLink RX4 3 objectInit ∈ zTb := z_in 88 (by decide +kernel) rfl
theorem lo1_3 : Cond.methodLink RX1 3 objectInit ∈ zTb := z_in 94 (by decide +kernel) rfl
theorem lo6_3 : Cond.methodLink RX6 3 objectInit ∈ zTb := z_in 187 (by decide +kernel) rfl
theorem lo0_3 : Cond.methodLink RX0 3 objectInit ∈ zTb := z_in 195 (by decide +kernel) rfl
theorem lo3_3 : Cond.methodLink RX3 3 objectInit ∈ zTb := z_in 210 (by decide +kernel) rfl
theorem lo2_3 : Cond.methodLink RX2 3 objectInit ∈ zTb := z_in 217 (by decide +kernel) rfl
theorem lo8_3 : Cond.methodLink RX8 3 objectInit ∈ zTb := z_in 223 (by decide +kernel) rfl
theorem za_nat : Cond.native arraycopyName ∈ zTb := z_in 484 (by decide +kernel) rfl
theorem za_sta : Cond.static arraycopyName ∈ zTb := z_in 483 (by decide +kernel) rfl
theorem za_ini : Cond.initialized "java/lang/System" ∈ zTb := z_in 51 (by decide +kernel) rfl
theorem zx_sta : Cond.static Lib.Math.max.name ∈ zTb := z_in 751 (by decide +kernel) rfl
theorem zx_ini : Cond.initialized "java/lang/Math" ∈ zTb := z_in 52 (by decide +kernel) rfl
theorem zx_cod : Cond.code Lib.Math.max.name Lib.Math.max.code 2 (some .int) ∈ zTb := z_in 752 (by decide +kernel) rfl
theorem zo_ins : Cond.instanceMethod objectInit ∈ zTb := z_in 59 (by decide +kernel) rfl
theorem zo_cod : Cond.code objectInit ⟨#[0xb1]⟩ 1 none ∈ zTb := z_in 60 (by decide +kernel) rfl
theorem zi_arr : Cond.arrayClass FieldType.int ∈ zTb := z_in 76 (by decide +kernel) rfl
theorem zi_arrB : Cond.arrayClass FieldType.boolean ∈ zTb := z_in 827 (by decide +kernel) rfl
theorem zao4 : Cond.arrayOver (.object RX4) ∈ lw_tbl := List.mem_of_getElem? (i := 179) (by decide +kernel)
theorem zao6 : Cond.arrayOver (.object RX6) ∈ lw_tbl := List.mem_of_getElem? (i := 181) (by decide +kernel)
theorem zao2 : Cond.arrayOver (.object RX2) ∈ lw_tbl := List.mem_of_getElem? (i := 212) (by decide +kernel)
theorem zao8 : Cond.arrayOver (.object RX8) ∈ lw_tbl := List.mem_of_getElem? (i := 294) (by decide +kernel)
