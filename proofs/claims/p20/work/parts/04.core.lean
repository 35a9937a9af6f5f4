/-! THE SMALL MACHINE: values are whole numbers, references by number (0 is null, k+1 is the k-th cell), a memory is functions; Xr says 'from here the method comes to its end with r and M1'. -/
abbrev ZV : Type := Int ⊕ (Nat ⊕ Int)
abbrev zi (x : Int) : ZV := Sum.inl x
abbrev zr (r : Nat) : ZV := Sum.inr (Sum.inl r)
abbrev zl (x : Int) : ZV := Sum.inr (Sum.inr x)
abbrev ZMem : Type := (Nat → Nat → Int) × (Nat → Nat → Nat) × (Nat → Nat × Nat) × Nat × Nat
def mI (M : ZMem) (o k : Nat) : Int := M.1 o k
def mR (M : ZMem) (o k : Nat) : Nat := M.2.1 o k
def mS (M : ZMem) (o : Nat) : Nat × Nat := M.2.2.1 o
def mz (M : ZMem) : Nat := M.2.2.2.1
def mw (M : ZMem) : Nat := M.2.2.2.2
def sI (M : ZMem) (o k : Nat) (x : Int) : ZMem := (fun a j => if a = o ∧ j = k then x else M.1 a j, M.2)
def sR (M : ZMem) (o k : Nat) (r : Nat) : ZMem := (M.1, fun a j => if a = o ∧ j = k then r else M.2.1 a j, M.2.2)
def sA (M : ZMem) (o : Nat) (f : Nat → Int) : ZMem := (fun a => if a = o then f else M.1 a, M.2)
def zNew (M : ZMem) (sh : Nat × Nat) (n : Nat) : ZMem := (fun a => if a = M.2.2.2.1 + 1 then (fun _ => 0) else M.1 a, fun a => if a = M.2.2.2.1 + 1 then (fun _ => 0) else M.2.1 a, fun a => if a = M.2.2.2.1 + 1 then sh else M.2.2.1 a, M.2.2.2.1 + 1, M.2.2.2.2 + n)
def zCpy (f g : Nat → Int) (sp dp n : Nat) : Nat → Int := fun k => if dp ≤ k ∧ k < dp + n then f (sp + (k - dp)) else g k
theorem mI_sI (M : ZMem) (o k : Nat) (x : Int) (a j : Nat) : mI (sI M o k x) a j = if a = o ∧ j = k then x else mI M a j := rfl
theorem mR_sI (M : ZMem) (o k : Nat) (x : Int) (a j : Nat) : mR (sI M o k x) a j = mR M a j := rfl
theorem mS_sI (M : ZMem) (o k : Nat) (x : Int) (a : Nat) : mS (sI M o k x) a = mS M a := rfl
theorem mz_sI (M : ZMem) (o k : Nat) (x : Int) : mz (sI M o k x) = mz M := rfl
theorem mw_sI (M : ZMem) (o k : Nat) (x : Int) : mw (sI M o k x) = mw M := rfl
theorem mI_sR (M : ZMem) (o k r a j : Nat) : mI (sR M o k r) a j = mI M a j := rfl
theorem mR_sR (M : ZMem) (o k r a j : Nat) : mR (sR M o k r) a j = if a = o ∧ j = k then r else mR M a j := rfl
theorem mS_sR (M : ZMem) (o k r a : Nat) : mS (sR M o k r) a = mS M a := rfl
theorem mz_sR (M : ZMem) (o k r : Nat) : mz (sR M o k r) = mz M := rfl
theorem mw_sR (M : ZMem) (o k r : Nat) : mw (sR M o k r) = mw M := rfl
theorem mI_sA (M : ZMem) (o : Nat) (f : Nat → Int) (a j : Nat) : mI (sA M o f) a j = if a = o then f j else mI M a j := by
  show (if a = o then f else M.1 a) j = _
  by_cases h : a = o
  · rw [if_pos h, if_pos h]
  · rw [if_neg h, if_neg h]; rfl
theorem mR_sA (M : ZMem) (o : Nat) (f : Nat → Int) (a j : Nat) : mR (sA M o f) a j = mR M a j := rfl
theorem mS_sA (M : ZMem) (o : Nat) (f : Nat → Int) (a : Nat) : mS (sA M o f) a = mS M a := rfl
theorem mz_sA (M : ZMem) (o : Nat) (f : Nat → Int) : mz (sA M o f) = mz M := rfl
theorem mw_sA (M : ZMem) (o : Nat) (f : Nat → Int) : mw (sA M o f) = mw M := rfl
theorem mI_new (M : ZMem) (sh : Nat × Nat) (n a j : Nat) : mI (zNew M sh n) a j = if a = mz M + 1 then 0 else mI M a j := by
  show (if a = M.2.2.2.1 + 1 then (fun _ => 0) else M.1 a) j = if a = M.2.2.2.1 + 1 then 0 else M.1 a j
  split <;> rfl
theorem mR_new (M : ZMem) (sh : Nat × Nat) (n a j : Nat) : mR (zNew M sh n) a j = if a = mz M + 1 then 0 else mR M a j := by
  show (if a = M.2.2.2.1 + 1 then (fun _ => 0) else M.2.1 a) j = if a = M.2.2.2.1 + 1 then 0 else M.2.1 a j
  split <;> rfl
theorem mS_new (M : ZMem) (sh : Nat × Nat) (n a : Nat) : mS (zNew M sh n) a = if a = mz M + 1 then sh else mS M a := rfl
theorem mz_new (M : ZMem) (sh : Nat × Nat) (n : Nat) : mz (zNew M sh n) = mz M + 1 := rfl
theorem mw_new (M : ZMem) (sh : Nat × Nat) (n : Nat) : mw (zNew M sh n) = mw M + n := rfl
/-- a number of 32 bits -/
def inR (x : Int) : Prop := -2147483648 ≤ x ∧ x ≤ 2147483647
theorem inR_0 : inR 0 := ⟨by decide, by decide⟩
theorem zI_toInt {x : Int} (h : inR x) : (Int32.ofInt x).toInt = x := Int32.toInt_ofInt_of_le h.1 (by have := h.2; show x < 2147483648; omega)
theorem zI_nat {x : Int} (h : inR x) : (Int32.ofInt x).toNatClampNeg = x.toNat := by
  show (Int32.ofInt x).toInt.toNat = x.toNat
  rw [zI_toInt h]
theorem zI_lt {x y : Int} (hx : inR x) (hy : inR y) : Int32.ofInt x < Int32.ofInt y ↔ x < y := by
  rw [Int32.lt_iff_toInt_lt, zI_toInt hx, zI_toInt hy]
theorem zI_le {x y : Int} (hx : inR x) (hy : inR y) : Int32.ofInt x ≤ Int32.ofInt y ↔ x ≤ y := by
  rw [Int32.le_iff_toInt_le, zI_toInt hx, zI_toInt hy]
theorem zI_eq {x y : Int} (hx : inR x) (hy : inR y) : Int32.ofInt x = Int32.ofInt y ↔ x = y :=
  ⟨fun h => by rw [← zI_toInt hx, ← zI_toInt hy, h], fun h => by rw [h]⟩
def zo (ad : Nat → Nat) (r : Nat) : Option Nat := match r with
  | 0 => none
  | k + 1 => some (ad k)
def zc (ad : Nat → Nat) (v : ZV) : Value := match v with
  | .inl x => .int (Int32.ofInt x)
  | .inr (.inl r) => va_rf (zo ad r)
  | .inr (.inr x) => .long (Int64.ofInt x)
def gd (z : Nat) (v : ZV) : Prop := match v with
  | .inl x => inR x
  | .inr (.inl r) => r ≤ z
  | .inr (.inr x) => -9223372036854775808 ≤ x ∧ x ≤ 9223372036854775807
def zf (ci : Nat) (M : ZMem) (o k : Nat) : ZV := if zfr ci k = true then zr (mR M o k) else zi (mI M o k)
/-- a cell as the world's words have it: kinds 1 numbers, 2 .. 5 references, 10 and on objects -/
def zE (cA : Nat → ClassId) (ad : Nat → Nat) (M : ZMem) (o : Nat) : va_E :=
  if (mS M o).1 = 1 then .inl (cA 0, ((mS M o).2, .inl (fun j => Int32.ofInt (mI M o j))))
  else if (mS M o).1 = 6 then .inl (cA 5, ((mS M o).2, .inl (fun j => Int32.ofInt (mI M o j))))
  else if (mS M o).1 < 10 then .inl (cA ((mS M o).1 - 1), ((mS M o).2, .inr (.inr (.inr (.inr (fun j => zo ad (mR M o j)))))))
  else .inr ((mS M o).1 - 10, (List.range (zNf ((mS M o).1 - 10))).map (fun k => zc ad (zf ((mS M o).1 - 10) M o k)))
def zWs (cA : Nat → ClassId) (ad : Nat → Nat) (M : ZMem) : va_W := (List.range (mz M - 1)).map (fun i => (ad (i + 1), zE cA ad M (i + 2)))
def zTys (cA : Nat → ClassId) : List (ClassId × FieldType) := [(cA 0, .int), (cA 1, .object RX4), (cA 2, .object RX6), (cA 3, .object RX2), (cA 4, .object RX8), (cA 5, .boolean)]
def zWf (M : ZMem) : Prop := (∀ o k, inR (mI M o k)) ∧ (∀ o k, mR M o k ≤ mz M) ∧ (∀ o, (mS M o).1 ≠ 0 → 2 ≤ o ∧ o ≤ mz M) ∧ 1 ≤ mz M
def zL (ad : Nat → Nat) (nL : Nat) (L : List (Option ZV)) (ls : Array Slot) : Prop := ls.size = nL ∧ lv_wf ls ∧ ∀ (k : Nat) (v : ZV), L[k]? = some (some v) → ls[k]? = some (.val (zc ad v))
def zNw (U : State) : Prop := (∀ a i b n d h, Cond.fieldLinkNest a i b n d h ∈ lw_tbl → va_Nw (.fieldLinkNest a i b n d h) U) ∧ (∀ a i x h, Cond.methodLinkNest a i x h ∈ lw_tbl → va_Nw (.methodLinkNest a i x h) U) ∧ ∀ C, Cond.arrayOver (.object C) ∈ lw_tbl → va_AO C U
theorem zNw.warm {s U : State} (hW : s.WarmedH U.vm) (h : zNw s) : zNw U := ⟨fun a i b n d hh hm => va_Nw.warmF hW (h.1 a i b n d hh hm), fun a i x hh hm => va_Nw.warmM hW (h.2.1 a i x hh hm), fun C hm => (h.2.2 C hm).moved hW.alike⟩
theorem zNw.same {u U : State} (e : u.vm = U.vm) (h : zNw u) : zNw U := ⟨fun a i b n d hh hm => va_Nw.same rfl e (h.1 a i b n d hh hm), fun a i x hh hm => va_Nw.same rfl e (h.2.1 a i x hh hm), fun C hm => (h.2.2 C hm).moved (by rw [e]; exact Vm.Alike.refl _)⟩
theorem zNw.of {args : Array Value} {s : State} (h : ∀ w ∈ lw_tbl, w.before args s = true) : zNw s := ⟨fun a i b n d hh hm => va_Nw.of rfl (h _ hm), fun a i x hh hm => va_Nw.of rfl (h _ hm), fun C hm => va_AO.of (h _ hm)⟩
/-- the script, where the law's own method runs: its length and what stands in it -/
abbrev ZE : Type := Option (Nat × (Nat → Int))
def zScr (E : ZE) (b : Nat) (s : State) (A : Nat → Prop) (H0 : Heap) (ad : Nat → Nat) : Prop := match E with
  | none => True
  | some q => va_X b q.1 (fun j => Int32.ofInt (q.2 j)) s H0 ∧ ¬ A b ∧ b < H0.size ∧ ad 0 = b ∧ q.1 < 2147483648 ∧ ∀ j, inR (q.2 j)
def zCx (d : Nat) (μ : ZMeth) (p : Program) (R : Room) (s : State) (m : MethodId) (args : Array Value) (meth : Method) (c : Code) (D : va_G) (cA : Nat → ClassId) (A : Nat → Prop) (H0 : Heap) : Prop :=
  p.tables.exec = Jvm.exec ∧ c.code = μ.2.1 ∧ c.maxLocals = μ.2.2.1 ∧ meth.sig.returnType = μ.2.2.2.1 ∧ (∀ w ∈ zTb, w.before args s = true) ∧ zNw s ∧ s.vm.findClass μ.2.2.2.2 = some m.cls ∧ meth.locks = false ∧ (μ.1.name = "<init>" → meth.name = "<init>") ∧ va_K D zCl (zTys cA) s ∧ (∀ q, H0.size ≤ q → A q) ∧ d + 1 ≤ R.frames ∧ (d + 1) * 39 ≤ R.locals
def zSt (nL : Nat) (D : va_G) (cA : Nat → ClassId) (ad : Nat → Nat) (A : Nat → Prop) (L : List (Option ZV)) (st : List ZV) (M : ZMem) (H : Heap) (ls : Array Slot) : Prop :=
  va_P D zCl (zWs cA ad M) H ∧ va_D A (zWs cA ad M) ∧ zWf M ∧ zL ad nL L ls ∧ (∀ v ∈ st, gd (mz M) v) ∧ (∀ v, some v ∈ L → gd (mz M) v)
/-- the return instruction for an outcome -/
def zRet (μ : ZMeth) (pc : Nat) (r : Option ZV) : Prop := match r with
  | none => decode μ.2.1 pc = .ok (.return_, 1) ∧ μ.2.2.2.1 = none
  | some (.inl x) => decode μ.2.1 pc = .ok (.ireturn, 1) ∧ (μ.2.2.2.1 = some .int ∨ (μ.2.2.2.1 = some .boolean ∧ (x = 0 ∨ x = 1)))
  | some (.inr (.inl _)) => decode μ.2.1 pc = .ok (.areturn, 1) ∧ ∃ n, μ.2.2.2.1 = some (.object n)
  | some (.inr (.inr _)) => False
def Xr (E : ZE) (d : Nat) (μ : ZMeth) (pc : Nat) (L : List (Option ZV)) (st : List ZV) (M : ZMem) (r : Option ZV) (M1 : ZMem) : Prop :=
  (mz M ≤ mz M1 ∧ mw M ≤ mw M1) ∧ ∀ (p : Program) (l : Launch) (e : Env) (R : Room) (s : State) (m : MethodId) (args : Array Value) (below : List Frame) (meth : Method) (c : Code) (H : Heap) (locs : List Loc) (cells slots : Nat) (D : va_G) (cA : Nat → ClassId) (ad : Nat → Nat) (A : Nat → Prop) (H0 : Heap) (ls : Array Slot) (b : Nat) (Q : State → Prop),
    zCx d μ p R s m args meth c D cA A H0 → zScr E b s A H0 ad → zSt μ.2.2.1 D cA ad A L st M H ls → va_S A H0 H locs → cells + (mz M1 - mz M) ≤ R.cells → slots + (mw M1 - mw M) ≤ R.slots →
    (∀ (pc1 : Nat) (ls1 : Array Slot) (ad1 : Nat → Nat) (H1 : Heap) (locs1 : List Loc), zRet μ pc1 r → va_P D zCl (zWs cA ad1 M1) H1 → va_D A (zWs cA ad1 M1) → zWf M1 → (∀ v ∈ r.toList, gd (mz M1) v) → (∀ i, i < mz M → ad1 i = ad i) → va_S A H0 H1 locs1 →
      W p l e R s m args below meth c H1 locs1 (cells + (mz M1 - mz M)) (slots + (mw M1 - mw M)) Q (F0 m pc1 ls1 (r.toList.map (zc ad1)))) →
    W p l e R s m args below meth c H locs cells slots Q (F0 m pc ls (st.map (zc ad)))
/-- a step that leaves cells and locals as they are -/
theorem Xr.op {E : ZE} {d : Nat} {μ : ZMeth} {pc pc' : Nat} {L : List (Option ZV)} {st st' : List ZV} {M : ZMem} {r : Option ZV} {M1 : ZMem} (k : Xr E d μ pc' L st' M r M1)
    (hg : zWf M → (∀ v ∈ st, gd (mz M) v) → (∀ v, some v ∈ L → gd (mz M) v) → ∀ v ∈ st', gd (mz M) v)
    (hW : ∀ {p : Program} {l : Launch} {e : Env} {R : Room} {s : State} {m : MethodId} {args : Array Value} {below : List Frame} {meth : Method} {c : Code} {H H0 : Heap} {locs : List Loc} {cells slots : Nat} {D : va_G} {cA : Nat → ClassId} {ad : Nat → Nat} {A : Nat → Prop} {ls : Array Slot} {b : Nat} {Q : State → Prop}, p.tables.exec = Jvm.exec → c.code = μ.2.1 → zCx d μ p R s m args meth c D cA A H0 → zScr E b s A H0 ad → zSt μ.2.2.1 D cA ad A L st M H ls → va_S A H0 H locs → (cells ≤ R.cells ∧ slots ≤ R.slots) → W p l e R s m args below meth c H locs cells slots Q (F0 m pc' ls (st'.map (zc ad))) → W p l e R s m args below meth c H locs cells slots Q (F0 m pc ls (st.map (zc ad)))) :
    Xr E d μ pc L st M r M1 := by
  refine ⟨k.1, fun p l e R s m args below meth c H locs cells slots D cA ad A H0 ls b Q hcx hscr hst hS hc hs fin => ?_⟩
  exact hW hcx.1 hcx.2.1 hcx hscr hst hS ⟨by omega, by omega⟩ (k.2 p l e R s m args below meth c H locs cells slots D cA ad A H0 ls b Q hcx hscr ⟨hst.1, hst.2.1, hst.2.2.1, hst.2.2.2.1, hg hst.2.2.1 hst.2.2.2.2.1 hst.2.2.2.2.2, hst.2.2.2.2.2⟩ hS hc hs fin)
