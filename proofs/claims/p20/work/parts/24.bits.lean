/-! bits of what a way came through -/
theorem zBit_ge {c : Int} {j : Nat} (h : 32 ≤ j) : zBit c j = false := BitVec.getLsbD_of_ge _ _ h
theorem zb_mask : ∀ i : Fin 31, ∀ j : Fin 32, zBit (zShl 1 (i.1 : Int) - 1) j.1 = decide (j.1 < i.1) := by decide +kernel
theorem zb_one : ∀ i : Fin 31, ∀ j : Fin 32, zBit (zShl 1 (i.1 : Int)) j.1 = decide (j.1 = i.1) := by decide +kernel
theorem zb_inR : ∀ i : Fin 31, 0 ≤ zShl 1 (i.1 : Int) - 1 ∧ zShl 1 (i.1 : Int) - 1 ≤ 2147483647 := by decide +kernel
theorem zb_amt : ∀ i : Fin 32, ((Int32.ofInt (i.1 : Int) &&& 31).toBitVec.smod 32#32).toNat = i.1 := by decide +kernel
theorem zb_amtU : ∀ i : Fin 32, (((Int32.ofInt (i.1 : Int)).toUInt32 &&& Int32.toUInt32 31).toBitVec % 32#32).toNat = i.1 := by decide +kernel
theorem zBit_of (x : Int32) (j : Nat) : zBit x.toInt j = x.toBitVec.getLsbD j := by unfold zBit; rw [Int32.ofInt_toInt]
theorem zBit_or (x y : Int) (j : Nat) : zBit (zOr x y) j = (zBit x j || zBit y j) := by
  unfold zOr
  rw [zBit_of, Int32.toBitVec_or, BitVec.getLsbD_or]
  rfl
theorem zBit_and (x y : Int) (j : Nat) : zBit (zAnd x y) j = (zBit x j && zBit y j) := by
  unfold zAnd
  rw [zBit_of, Int32.toBitVec_and, BitVec.getLsbD_and]
  rfl
theorem zBit_shl (x : Int) {i j : Nat} (h : i < 32) : zBit (zShl x i) j = (decide (j < 32) && !decide (j < i) && zBit x (j - i)) := by
  unfold zShl
  rw [zBit_of, Int32.toBitVec_shiftLeft]
  show ((Int32.ofInt x).toBitVec <<< ((Int32.ofInt (i : Int) &&& 31).toBitVec.smod 32#32).toNat).getLsbD j = _
  rw [zb_amt ⟨i, h⟩, BitVec.getLsbD_shiftLeft]
  rfl
theorem zBit_shr (x : Int) {i j : Nat} (h : i < 32) : zBit (zShr x i) j = zBit x (i + j) := by
  unfold zShr
  rw [zBit_of]
  show ((Int32.ofInt x).toBitVec >>> (((Int32.ofInt (i : Int)).toUInt32 &&& Int32.toUInt32 31).toBitVec % 32#32).toNat).getLsbD j = _
  rw [zb_amtU ⟨i, h⟩, BitVec.getLsbD_ushiftRight]
  rfl
def cWithout (c : Nat → Bool) (i : Nat) : Nat → Bool := fun j => if j < i then c j else c (j + 1)
theorem zBit_without {c : Int} {i : Nat} (h : i < 31) : zBit (zOr (zAnd c (zShl 1 i - 1)) (zShl (zShr c ((i : Int) + 1)) i)) = cWithout (zBit c) i := by
  funext j
  rw [zBit_or, zBit_and, zBit_shl _ (by omega), show ((i : Int) + 1) = ((i + 1 : Nat) : Int) from rfl, zBit_shr _ (by omega)]
  unfold cWithout
  by_cases hj : j < 32
  · rw [zb_mask ⟨i, h⟩ ⟨j, hj⟩]
    by_cases q : j < i
    · simp [q]
    · simp [q, hj, show i + 1 + (j - i) = j + 1 by omega]
  · rw [zBit_ge (c := c) (by omega)]
    simp [hj, show ¬ j < i by omega, zBit_ge (c := c) (j := j + 1) (by omega)]
theorem zBit_with {c : Int} {i : Nat} (h : i < 31) : zBit (zOr c (zShl 1 i)) = fup (zBit c) i true := by
  funext j
  rw [zBit_or]
  show _ = if j = i then true else zBit c j
  by_cases hj : j < 32
  · rw [zb_one ⟨i, h⟩ ⟨j, hj⟩]
    by_cases q : j = i <;> simp [q]
  · rw [zBit_ge (c := c) (by omega), zBit_ge (c := zShl 1 i) (by omega), if_neg (by omega)]
    rfl
theorem zAnd_one (x : Int) : zAnd x 1 = if zBit x 0 = true then 1 else 0 := by
  have e : (Int32.ofInt x &&& Int32.ofInt 1) = if zBit x 0 = true then 1 else 0 := by
    apply Int32.toBitVec_inj.mp
    rw [Int32.toBitVec_and]
    apply BitVec.eq_of_getLsbD_eq
    intro j hj
    rw [BitVec.getLsbD_and]
    have h1 : (Int32.ofInt 1).toBitVec.getLsbD j = decide (j = 0) := by
      have : ∀ j : Fin 32, (Int32.ofInt 1).toBitVec.getLsbD j.1 = decide (j.1 = 0) := by decide +kernel
      exact this ⟨j, hj⟩
    rw [h1]
    by_cases q : j = 0
    · subst q
      show ((Int32.ofInt x).toBitVec.getLsbD 0 && true) = _
      by_cases b : zBit x 0 = true
      · rw [if_pos b]; unfold zBit at b; rw [b]; decide
      · rw [if_neg b]; unfold zBit at b; rw [Bool.not_eq_true] at b; rw [b]; decide
    · have hz : ∀ j : Fin 32, j.1 ≠ 0 → (1 : Int32).toBitVec.getLsbD j.1 = false := by decide +kernel
      have hz0 : ∀ j : Fin 32, (0 : Int32).toBitVec.getLsbD j.1 = false := by decide +kernel
      by_cases b : zBit x 0 = true
      · rw [if_pos b, hz ⟨j, hj⟩ q]; simp [q]
      · rw [if_neg b, hz0 ⟨j, hj⟩]; simp [q]
  unfold zAnd
  rw [e]
  split <;> decide
theorem zBit_test {c : Int} {i : Nat} (h : i < 32) : zAnd (zShr c i) 1 = 1 ↔ zBit c i = true := by
  rw [zAnd_one, zBit_shr c h, Nat.add_zero]
  split
  · simp [*]
  · simp [*]
