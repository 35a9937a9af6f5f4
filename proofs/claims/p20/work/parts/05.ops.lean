/-! one instruction a row, over the small machine: numbers, locals, stack, branches -/
theorem gd_cons {z : Nat} {v : ZV} {st : List ZV} (h1 : gd z v) (h : ∀ w ∈ st, gd z w) : ∀ w ∈ v :: st, gd z w := fun w hw => by
  rcases List.mem_cons.mp hw with rfl | q
  · exact h1
  · exact h w q
theorem gd_tl {z : Nat} {v : ZV} {st : List ZV} (h : ∀ w ∈ v :: st, gd z w) : ∀ w ∈ st, gd z w := fun w hw => h w (List.mem_cons_of_mem _ hw)
theorem gd_hd {z : Nat} {v : ZV} {st : List ZV} (h : ∀ w ∈ v :: st, gd z w) : gd z v := h v List.mem_cons_self
theorem gd_hi {z : Nat} {x : Int} {st : List ZV} (h : ∀ w ∈ zi x :: st, gd z w) : inR x := h (zi x) List.mem_cons_self
theorem zc_cat (ad : Nat → Nat) (r : Nat) : (va_rf (zo ad r)).category = 1 := by cases r <;> rfl
section ZOPS
variable {E : ZE} {d : Nat} {μ : ZMeth} {pc : Nat} {L : List (Option ZV)} {st : List ZV} {M : ZMem} {r : Option ZV} {M1 : ZMem}
theorem x_iconst {n : Int} (hdg : decode μ.2.1 pc = .ok (.iconst n, 1)) (hv : inR n) (k : Xr E d μ (pc + 1) L (zi n :: st) M r M1) : Xr E d μ pc L st M r M1 :=
  k.op (fun _ h _ => gd_cons hv h) (fun hx hb _ _ _ _ _ w => lv_iconst hx hb hdg rfl w)
theorem x_bipush {n : Int} (hdg : decode μ.2.1 pc = .ok (.bipush n, 2)) (hv : inR n) (he : (Int8.ofInt n).toInt32 = Int32.ofInt n) (k : Xr E d μ (pc + 2) L (zi n :: st) M r M1) : Xr E d μ pc L st M r M1 :=
  k.op (fun _ h _ => gd_cons hv h) (fun hx hb _ _ _ _ _ w => lv_bipush hx hb hdg he w)
theorem x_sipush {n : Int} (hdg : decode μ.2.1 pc = .ok (.sipush n, 3)) (hv : inR n) (he : (Int16.ofInt n).toInt32 = Int32.ofInt n) (k : Xr E d μ (pc + 3) L (zi n :: st) M r M1) : Xr E d μ pc L st M r M1 :=
  k.op (fun _ h _ => gd_cons hv h) (fun hx hb _ _ _ _ _ w => lv_sipush hx hb hdg he w)
theorem x_ldc {n : Int} {v : Int32} {i : Nat} (hw : Cond.constant μ.2.2.2.2 i v ∈ zTb) (hdg : decode μ.2.1 pc = .ok (.ldc i, 2)) (hv : inR n) (he : v = Int32.ofInt n) (k : Xr E d μ (pc + 2) L (zi n :: st) M r M1) : Xr E d μ pc L st M r M1 := by
  subst he
  exact k.op (fun _ h _ => gd_cons hv h) (fun hx hb hc _ _ _ _ w => lv_ldc hx hb hc.2.2.2.2.2.2.1 (hc.2.2.2.2.1 _ hw) hdg w)
theorem x_ldcw {n : Int} {v : Int32} {i : Nat} (hw : Cond.constant μ.2.2.2.2 i v ∈ zTb) (hdg : decode μ.2.1 pc = .ok (.ldc_w i, 3)) (hv : inR n) (he : v = Int32.ofInt n) (k : Xr E d μ (pc + 3) L (zi n :: st) M r M1) : Xr E d μ pc L st M r M1 := by
  subst he
  exact k.op (fun _ h _ => gd_cons hv h) (fun hx hb hc _ _ _ _ w => lv_ldcw hx hb hc.2.2.2.2.2.2.1 (hc.2.2.2.2.1 _ hw) hdg w)
theorem x_null (hdg : decode μ.2.1 pc = .ok (.aconst_null, 1)) (k : Xr E d μ (pc + 1) L (zr 0 :: st) M r M1) : Xr E d μ pc L st M r M1 :=
  k.op (fun _ h _ => gd_cons (Nat.zero_le _) h) (fun hx hb _ _ _ _ _ w => lv_null hx hb hdg w)
theorem x_iload {i : Nat} {x : Int} (hdg : decode μ.2.1 pc = .ok (.iload i, 2)) (hl : L[i]? = some (some (zi x))) (k : Xr E d μ (pc + 2) L (zi x :: st) M r M1) : Xr E d μ pc L st M r M1 :=
  k.op (fun _ h g => gd_cons (g _ (List.mem_of_getElem? hl)) h) (fun hx hb _ _ hs _ _ w => lv_iload hx hb hdg (hs.2.2.2.1.2.2 _ _ hl) w)
theorem x_iload_n {i : Nat} {j : Fin 4} {x : Int} (hdg : decode μ.2.1 pc = .ok (.iload_n j, 1)) (hj : (j : Nat) = i) (hl : L[i]? = some (some (zi x))) (k : Xr E d μ (pc + 1) L (zi x :: st) M r M1) : Xr E d μ pc L st M r M1 :=
  k.op (fun _ h g => gd_cons (g _ (List.mem_of_getElem? hl)) h) (fun hx hb _ _ hs _ _ w => lv_iload_n hx hb hdg hj (hs.2.2.2.1.2.2 _ _ hl) w)
theorem x_aload {i : Nat} {x : Nat} (hdg : decode μ.2.1 pc = .ok (.aload i, 2)) (hl : L[i]? = some (some (zr x))) (k : Xr E d μ (pc + 2) L (zr x :: st) M r M1) : Xr E d μ pc L st M r M1 :=
  k.op (fun _ h g => gd_cons (g _ (List.mem_of_getElem? hl)) h) (fun hx hb _ _ hs _ _ w => by
    cases x with
    | zero => exact lv_aloadN hx hb hdg (hs.2.2.2.1.2.2 _ _ hl) w
    | succ x => exact lv_aload hx hb hdg (hs.2.2.2.1.2.2 _ _ hl) w)
theorem x_aload_n {i : Nat} {j : Fin 4} {x : Nat} (hdg : decode μ.2.1 pc = .ok (.aload_n j, 1)) (hj : (j : Nat) = i) (hl : L[i]? = some (some (zr x))) (k : Xr E d μ (pc + 1) L (zr x :: st) M r M1) : Xr E d μ pc L st M r M1 :=
  k.op (fun _ h g => gd_cons (g _ (List.mem_of_getElem? hl)) h) (fun hx hb _ _ hs _ _ w => by
    cases x with
    | zero => exact lv_aload_nN hx hb hdg hj (hs.2.2.2.1.2.2 _ _ hl) w
    | succ x => exact lv_aload_n hx hb hdg hj (hs.2.2.2.1.2.2 _ _ hl) w)
theorem x_iadd {x y : Int} (hdg : decode μ.2.1 pc = .ok (.iadd, 1)) (hv : inR (x + y)) (k : Xr E d μ (pc + 1) L (zi (x + y) :: st) M r M1) : Xr E d μ pc L (zi y :: zi x :: st) M r M1 :=
  k.op (fun _ h _ => gd_cons hv (gd_tl (gd_tl h))) (fun hx hb _ _ _ _ _ w => lv_iadd hx hb hdg (by rw [← Int32.ofInt_add]; exact w))
theorem x_isub {x y : Int} (hdg : decode μ.2.1 pc = .ok (.isub, 1)) (hv : inR (x - y)) (k : Xr E d μ (pc + 1) L (zi (x - y) :: st) M r M1) : Xr E d μ pc L (zi y :: zi x :: st) M r M1 :=
  k.op (fun _ h _ => gd_cons hv (gd_tl (gd_tl h))) (fun hx hb _ _ _ _ _ w => lv_isub hx hb hdg (by rw [← Int32.ofInt_sub]; exact w))
theorem x_imul {x y : Int} (hdg : decode μ.2.1 pc = .ok (.imul, 1)) (hv : inR (x * y)) (k : Xr E d μ (pc + 1) L (zi (x * y) :: st) M r M1) : Xr E d μ pc L (zi y :: zi x :: st) M r M1 :=
  k.op (fun _ h _ => gd_cons hv (gd_tl (gd_tl h))) (fun hx hb _ _ _ _ _ w => lv_imul hx hb hdg (by rw [← Int32.ofInt_mul]; exact w))
theorem x_ineg {x : Int} (hdg : decode μ.2.1 pc = .ok (.ineg, 1)) (hv : inR (-x)) (k : Xr E d μ (pc + 1) L (zi (-x) :: st) M r M1) : Xr E d μ pc L (zi x :: st) M r M1 :=
  k.op (fun _ h _ => gd_cons hv (gd_tl h)) (fun hx hb _ _ _ _ _ w => lv_ineg hx hb hdg (by rw [← Int32.ofInt_neg]; exact w))
/-- and, or, shifts: what the two words are, taken as given -/
theorem x_iand {x y v : Int} (hdg : decode μ.2.1 pc = .ok (.iand, 1)) (hv : inR v) (he : Int32.ofInt x &&& Int32.ofInt y = Int32.ofInt v) (k : Xr E d μ (pc + 1) L (zi v :: st) M r M1) : Xr E d μ pc L (zi y :: zi x :: st) M r M1 :=
  k.op (fun _ h _ => gd_cons hv (gd_tl (gd_tl h))) (fun hx hb _ _ _ _ _ w => lv_iand hx hb hdg (by rw [he]; exact w))
theorem x_ior {x y v : Int} (hdg : decode μ.2.1 pc = .ok (.ior, 1)) (hv : inR v) (he : Int32.ofInt x ||| Int32.ofInt y = Int32.ofInt v) (k : Xr E d μ (pc + 1) L (zi v :: st) M r M1) : Xr E d μ pc L (zi y :: zi x :: st) M r M1 :=
  k.op (fun _ h _ => gd_cons hv (gd_tl (gd_tl h))) (fun hx hb _ _ _ _ _ w => lv_ior hx hb hdg (by rw [he]; exact w))
theorem x_ishl {x y v : Int} (hdg : decode μ.2.1 pc = .ok (.ishl, 1)) (hv : inR v) (he : Int32.ofInt x <<< (Int32.ofInt y &&& 31) = Int32.ofInt v) (k : Xr E d μ (pc + 1) L (zi v :: st) M r M1) : Xr E d μ pc L (zi y :: zi x :: st) M r M1 :=
  k.op (fun _ h _ => gd_cons hv (gd_tl (gd_tl h))) (fun hx hb _ _ _ _ _ w => lv_ishl hx hb hdg (by rw [he]; exact w))
theorem x_iushr {x y v : Int} (hdg : decode μ.2.1 pc = .ok (.iushr, 1)) (hv : inR v) (he : ((Int32.ofInt x).toUInt32 >>> ((Int32.ofInt y).toUInt32 &&& Int32.toUInt32 31)).toInt32 = Int32.ofInt v) (k : Xr E d μ (pc + 1) L (zi v :: st) M r M1) : Xr E d μ pc L (zi y :: zi x :: st) M r M1 :=
  k.op (fun _ h _ => gd_cons hv (gd_tl (gd_tl h))) (fun hx hb _ _ _ _ _ w => lv_iushr hx hb hdg he w)
theorem x_dupI {x : Int} (hdg : decode μ.2.1 pc = .ok (.dup, 1)) (k : Xr E d μ (pc + 1) L (zi x :: zi x :: st) M r M1) : Xr E d μ pc L (zi x :: st) M r M1 :=
  k.op (fun _ h _ => gd_cons (gd_hd h) h) (fun hx hb _ _ _ _ _ w => lv_dup hx hb hdg rfl w)
theorem x_dupR {x : Nat} (hdg : decode μ.2.1 pc = .ok (.dup, 1)) (k : Xr E d μ (pc + 1) L (zr x :: zr x :: st) M r M1) : Xr E d μ pc L (zr x :: st) M r M1 :=
  k.op (fun _ h _ => gd_cons (gd_hd h) h) (fun hx hb _ _ _ _ _ w => lv_dup hx hb hdg (zc_cat _ x) w)
theorem x_dup2 {x : Int} {y : Nat} (hdg : decode μ.2.1 pc = .ok (.dup2, 1)) (k : Xr E d μ (pc + 1) L (zi x :: zr y :: zi x :: zr y :: st) M r M1) : Xr E d μ pc L (zi x :: zr y :: st) M r M1 :=
  k.op (fun _ h _ => gd_cons (gd_hd h) (gd_cons (gd_hd (gd_tl h)) h)) (fun hx hb _ _ _ _ _ w => lv_dup2_11 hx hb hdg rfl (zc_cat _ y) w)
theorem x_popI {x : Int} (hdg : decode μ.2.1 pc = .ok (.pop, 1)) (k : Xr E d μ (pc + 1) L st M r M1) : Xr E d μ pc L (zi x :: st) M r M1 :=
  k.op (fun _ h _ => gd_tl h) (fun hx hb _ _ _ _ _ w => lv_pop hx hb hdg rfl w)
theorem x_popR {x : Nat} (hdg : decode μ.2.1 pc = .ok (.pop, 1)) (k : Xr E d μ (pc + 1) L st M r M1) : Xr E d μ pc L (zr x :: st) M r M1 :=
  k.op (fun _ h _ => gd_tl h) (fun hx hb _ _ _ _ _ w => lv_pop hx hb hdg (zc_cat _ x) w)
theorem x_goto {off : Int} {tgt : Nat} (hdg : decode μ.2.1 pc = .ok (.goto off, 3)) (ht : (pc : Int) + off = (tgt : Int)) (k : Xr E d μ tgt L st M r M1) : Xr E d μ pc L st M r M1 :=
  k.op (fun _ h _ => h) (fun hx hb _ _ _ _ _ w => lv_goto hx hb hdg ht w)
end ZOPS
