/-! the rows once more, over the layout K; bits; the reference's range test -/
section ZK
variable {E : ZE} {d : Nat} {μ : ZMeth} {pc : Nat} {L : List (Option ZV)} {st : List ZV} {K M : ZMem} {r : Option ZV} {M1 : ZMem}
theorem x_getRK (hK : KW K M) {i ci k o v : Nat} (hl : zFI μ.2.2.2.2 i ci k) (hf : zfr ci k = true) (hdg : decode μ.2.1 pc = .ok (.getfield i, 3)) (ho : (mS K o).1 = 10 + ci) (hv : mR K o k = v) (kk : Xr E d μ (pc + 3) L (zr v :: st) M r M1) : Xr E d μ pc L (zr o :: st) M r M1 :=
  x_getR hl hf hdg (by rw [hK.s]; exact ho) (by rw [hK.2.2.2 o k (by rw [ho]; omega), hv]; exact kk)
theorem x_getIK (hK : KW K M) {i ci k o : Nat} (hl : zFI μ.2.2.2.2 i ci k) (hf : zfr ci k = false) (hdg : decode μ.2.1 pc = .ok (.getfield i, 3)) (ho : (mS K o).1 = 10 + ci) (kk : Xr E d μ (pc + 3) L (zi (mI M o k) :: st) M r M1) : Xr E d μ pc L (zr o :: st) M r M1 :=
  x_getI hl hf hdg (by rw [hK.s]; exact ho) kk
theorem x_putIK (hK : KW K M) {i ci k o : Nat} {x : Int} (hl : zFI μ.2.2.2.2 i ci k) (hf : zfr ci k = false) (hfin : zFn ci k = false) (hz01 : zfb ci k = false ∨ x = 0 ∨ x = 1) (hdg : decode μ.2.1 pc = .ok (.putfield i, 3)) (ho : (mS K o).1 = 10 + ci) (kk : Xr E d μ (pc + 3) L st (sI M o k x) r M1) : Xr E d μ pc L (zi x :: zr o :: st) M r M1 :=
  x_putI hl hf hfin hz01 hdg (by rw [hK.s]; exact ho) kk
theorem x_ialoadK (hK : KW K M) {o n : Nat} {i : Int} (hdg : decode μ.2.1 pc = .ok (.iaload, 1)) (hs : mS K o = (1, n)) (h0 : 0 ≤ i) (h1 : i < n) (kk : Xr E d μ (pc + 1) L (zi (mI M o i.toNat) :: st) M r M1) : Xr E d μ pc L (zi i :: zr o :: st) M r M1 :=
  x_iaload hdg (by rw [hK.s]; exact hs) h0 h1 kk
theorem x_iastoreK (hK : KW K M) {o n : Nat} {i x : Int} (hdg : decode μ.2.1 pc = .ok (.iastore, 1)) (hs : mS K o = (1, n)) (h0 : 0 ≤ i) (h1 : i < n) (kk : Xr E d μ (pc + 1) L st (sI M o i.toNat x) r M1) : Xr E d μ pc L (zi x :: zi i :: zr o :: st) M r M1 :=
  x_iastore hdg (by rw [hK.s]; exact hs) h0 h1 kk
theorem x_aaloadK (hK : KW K M) {o n t : Nat} {i : Int} (hdg : decode μ.2.1 pc = .ok (.aaload, 1)) (hs : mS K o = (t, n)) (ht : t = 2 ∨ t = 3 ∨ t = 4 ∨ t = 5) (h0 : 0 ≤ i) (h1 : i < n) (kk : Xr E d μ (pc + 1) L (zr (mR M o i.toNat) :: st) M r M1) : Xr E d μ pc L (zi i :: zr o :: st) M r M1 :=
  x_aaload hdg (by rw [hK.s]; exact hs) ht h0 h1 kk
theorem x_aastoreK (hK : KW K M) {o n t v : Nat} {i : Int} (hdg : decode μ.2.1 pc = .ok (.aastore, 1)) (hs : mS K o = (t, n)) (ht : t = 2 ∨ t = 3 ∨ t = 4 ∨ t = 5) (hv : (mS K v).1 = 10 + zKc t) (h0 : 0 ≤ i) (h1 : i < n) (kk : Xr E d μ (pc + 1) L st (sR M o i.toNat v) r M1) : Xr E d μ pc L (zr v :: zi i :: zr o :: st) M r M1 :=
  x_aastore hdg (by rw [hK.s]; exact hs) ht (by rw [hK.s]; exact hv) h0 h1 kk
theorem x_alenK (hK : KW K M) {o n t : Nat} (hdg : decode μ.2.1 pc = .ok (.arraylength, 1)) (hs : mS K o = (t, n)) (ht : 1 ≤ t ∧ t < 6) (hn : n < 2147483648) (kk : Xr E d μ (pc + 1) L (zi n :: st) M r M1) : Xr E d μ pc L (zr o :: st) M r M1 :=
  x_alen hdg (by rw [hK.s]; exact hs) ht hn kk
theorem x_copyK (hK : KW K M) {i a b na nb : Nat} {sp dp n : Int} (hw : Cond.methodLink μ.2.2.2.2 i arraycopyName ∈ zTb) (hdg : decode μ.2.1 pc = .ok (.invokestatic i, 3)) (ha : mS K a = (1, na)) (hb' : mS K b = (1, nb)) (h1 : 0 ≤ sp) (h2 : 0 ≤ dp) (h3 : 0 ≤ n) (h4 : sp + n ≤ na) (h5 : dp + n ≤ nb) (kk : Xr E d μ (pc + 3) L [] (sA M b (zCpy (mI M a) (mI M b) sp.toNat dp.toNat n.toNat)) r M1) : Xr E d μ pc L [zi n, zi dp, zr b, zi sp, zr a] M r M1 :=
  x_copy hw hdg (by rw [hK.s]; exact ha) (by rw [hK.s]; exact hb') h1 h2 h3 h4 h5 kk
theorem x_callVK (hK : KW K M) {ν : ZMeth} {i n o : Nat} {as : List ZV} {v : Option ZV} {M2 : ZMem} (hk : zKV ν n) (hl : zML μ.2.2.2.2 i ν.1) (hdg : decode μ.2.1 pc = .ok (.invokevirtual i, 3)) (hn : as.length = n) (hml : ν.2.2.1 ≤ 20) (hst0 : ∀ ad : Nat → Nat, ((st.map (zc ad)).map fun v => v.category).sum ≤ 8) {ci : Nat} (ho : (mS K o).1 = 10 + ci) (hcl : ∃ T N, zCl[ci]? = some (ν.1.cls, T, N))
    (hM : ClR d ν (zr o :: as) M v M2) (k : Xr E (d + 1) μ (pc + 3) L (v.toList ++ st) M2 r M1) : Xr E (d + 1) μ pc L (as.reverse ++ zr o :: st) M r M1 :=
  x_callV hk hl hdg hn hml hst0 (by rw [hK.s]; exact ho) hcl hM k
theorem x_acmpK (hK : KW K M) {x y : Nat} {off : Int} {tgt : Nat} (hdg : decode μ.2.1 pc = .ok (.if_acmp .eq off, 3)) (ht : (pc : Int) + off = (tgt : Int)) {cy cx : Nat} (hy : (mS K y).1 = 10 + cy) (hx : (mS K x).1 = 10 + cx) (kt : x = y → Xr E d μ tgt L st M r M1) (kf : ¬ x = y → Xr E d μ (pc + 3) L st M r M1) : Xr E d μ pc L (zr y :: zr x :: st) M r M1 := by
  have inj : ∀ {D : va_G} {cA : Nat → ClassId} {ad : Nat → Nat} {A : Nat → Prop} {ls : Array Slot} {H : Heap}, zSt μ.2.2.1 D cA ad A L (zr y :: zr x :: st) M H ls → zo ad x = zo ad y → x = y := fun {D cA ad A ls H} hst e => by
    obtain ⟨hP, hD, hw, -⟩ := hst
    obtain ⟨x2, xz⟩ := hw.2.2.1 x (by rw [hK.s, hx]; omega)
    obtain ⟨y2, yz⟩ := hw.2.2.1 y (by rw [hK.s, hy]; omega)
    have h := hD.1 (x - 2) (y - 2) _ _ (zWs_get x2 xz) (zWs_get y2 yz) (by
      obtain ⟨i, rfl⟩ : ∃ i, x = i + 1 := ⟨x - 1, by omega⟩
      obtain ⟨j, rfl⟩ : ∃ j, y = j + 1 := ⟨y - 1, by omega⟩
      exact Option.some.inj e)
    omega
  by_cases h : x = y
  · exact (kt h).op (fun _ h _ => gd_tl (gd_tl h)) (fun hxx hb _ _ _ _ _ w => lv_acmp_eq hxx hb hdg ht (fun _ => w) (fun q => absurd (by rw [h]) q))
  · exact (kf h).op (fun _ h _ => gd_tl (gd_tl h)) (fun hxx hb _ _ hst _ _ w => lv_acmp_eq hxx hb hdg ht (fun q => absurd (inj hst q) h) (fun _ => w))
/-- the bits of two words -/
def zAnd (x y : Int) : Int := (Int32.ofInt x &&& Int32.ofInt y).toInt
def zOr (x y : Int) : Int := (Int32.ofInt x ||| Int32.ofInt y).toInt
def zShl (x y : Int) : Int := (Int32.ofInt x <<< (Int32.ofInt y &&& 31)).toInt
def zShr (x y : Int) : Int := ((Int32.ofInt x).toUInt32 >>> ((Int32.ofInt y).toUInt32 &&& Int32.toUInt32 31)).toInt32.toInt
theorem inR_of (x : Int32) : inR x.toInt := ⟨by have := x.le_toInt; omega, by have := x.toInt_lt; omega⟩
theorem x_iandK {x y : Int} (hdg : decode μ.2.1 pc = .ok (.iand, 1)) (k : Xr E d μ (pc + 1) L (zi (zAnd x y) :: st) M r M1) : Xr E d μ pc L (zi y :: zi x :: st) M r M1 := x_iand hdg (inR_of _) (Int32.ofInt_toInt _).symm k
theorem x_iorK {x y : Int} (hdg : decode μ.2.1 pc = .ok (.ior, 1)) (k : Xr E d μ (pc + 1) L (zi (zOr x y) :: st) M r M1) : Xr E d μ pc L (zi y :: zi x :: st) M r M1 := x_ior hdg (inR_of _) (Int32.ofInt_toInt _).symm k
theorem x_ishlK {x y : Int} (hdg : decode μ.2.1 pc = .ok (.ishl, 1)) (k : Xr E d μ (pc + 1) L (zi (zShl x y) :: st) M r M1) : Xr E d μ pc L (zi y :: zi x :: st) M r M1 := x_ishl hdg (inR_of _) (Int32.ofInt_toInt _).symm k
theorem x_iushrK {x y : Int} (hdg : decode μ.2.1 pc = .ok (.iushr, 1)) (k : Xr E d μ (pc + 1) L (zi (zShr x y) :: st) M r M1) : Xr E d μ pc L (zi y :: zi x :: st) M r M1 := x_iushr hdg (inR_of _) (Int32.ofInt_toInt _).symm k
end ZK
