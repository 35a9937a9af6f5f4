/-! stores into locals, branches, switches -/
/-- the locals as a list of what is known -/
def zAs (ad : Nat → Nat) (L : List (Option ZV)) : List (Nat × Value) := (List.range L.length).filterMap (fun k => (L.getD k none).map (fun v => (k, zc ad v)))
theorem zAs_in {ad : Nat → Nat} {L : List (Option ZV)} {k : Nat} {v : ZV} (h : L[k]? = some (some v)) : (k, zc ad v) ∈ zAs ad L := by
  have hk : k < L.length := (List.getElem?_eq_some_iff.mp h).1
  refine List.mem_filterMap.mpr ⟨k, List.mem_range.mpr hk, ?_⟩
  rw [List.getD_eq_getElem?_getD, h]
  rfl
theorem zAs_out {ad : Nat → Nat} {L : List (Option ZV)} {q : Nat × Value} (h : q ∈ zAs ad L) : ∃ v, L[q.1]? = some (some v) ∧ q.2 = zc ad v := by
  obtain ⟨k, hk, he⟩ := List.mem_filterMap.mp h
  have hk' := List.mem_range.mp hk
  rw [List.getD_eq_getElem?_getD, List.getElem?_eq_getElem hk'] at he
  cases hv : L[k] with
  | none => rw [hv] at he; cases he
  | some v =>
    rw [hv] at he
    cases he
    exact ⟨v, by rw [List.getElem?_eq_getElem hk', hv], rfl⟩
theorem zL_has {ad : Nat → Nat} {nL : Nat} {L : List (Option ZV)} {ls : Array Slot} (h : zL ad nL L ls) : lv_has ls nL (zAs ad L) := ⟨h.1, h.2.1, fun q hq => by
  obtain ⟨v, h1, h2⟩ := zAs_out hq
  rw [h2]
  exact h.2.2 _ _ h1⟩
/-- no long among the locals -/
def zNl (L : List (Option ZV)) : Bool := L.all (fun o => match o with | some (.inr (.inr _)) => false | _ => true)
theorem zNl_at {L : List (Option ZV)} (h : zNl L = true) {ad : Nat → Nat} {k : Nat} {v : ZV} (hk : L[k]? = some (some v)) : (zc ad v).category = 1 := by
  have h1 := List.all_eq_true.mp h _ (List.mem_of_getElem? hk)
  match v, h1 with
  | .inl x, _ => rfl
  | .inr (.inl x), _ => exact zc_cat ad x
theorem zL_set {ad : Nat → Nat} {nL i : Nat} {L : List (Option ZV)} {v : ZV} {ls' : Array Slot} (hn : zNl L = true) (h : lv_has ls' nL ((i, zc ad v) :: (zAs ad L).filter (fun q => !(q.1 == i) && !(q.1 + 1 == i && q.2.category == 2)))) : zL ad nL (L.set i (some v)) ls' := by
  refine ⟨h.1, h.2.1, fun k w hk => ?_⟩
  by_cases hki : k = i
  · subst hki
    have hl : k < (L.set k (some v)).length := (List.getElem?_eq_some_iff.mp hk).1
    rw [List.length_set] at hl
    rw [List.getElem?_set_self hl] at hk
    cases hk
    exact h.2.2 _ List.mem_cons_self
  · rw [List.getElem?_set_ne (fun e => hki e.symm)] at hk
    refine h.2.2 (k, zc ad w) (List.mem_cons_of_mem _ (List.mem_filter.mpr ⟨zAs_in hk, ?_⟩))
    have hc := zNl_at hn (ad := ad) hk
    simp [hki, hc]
theorem gd_setL {z i : Nat} {v : ZV} {L : List (Option ZV)} (hv : gd z v) (h : ∀ w, some w ∈ L → gd z w) : ∀ w, some w ∈ L.set i (some v) → gd z w := fun w hw => by
  rcases List.mem_or_eq_of_mem_set hw with q | q
  · exact h w q
  · cases q; exact hv
section ZOPS2
variable {E : ZE} {d : Nat} {μ : ZMeth} {pc : Nat} {L : List (Option ZV)} {st : List ZV} {M : ZMem} {r : Option ZV} {M1 : ZMem}
/-- a step that changes the locals alone -/
theorem Xr.opL {pc' i : Nat} {v : ZV} {st' : List ZV} (hn : zNl L = true) (k : Xr E d μ pc' (L.set i (some v)) st' M r M1)
    (hg : (∀ v ∈ st, gd (mz M) v) → (∀ v, some v ∈ L → gd (mz M) v) → gd (mz M) v ∧ ∀ v ∈ st', gd (mz M) v)
    (hW : ∀ {p : Program} {l : Launch} {e : Env} {R : Room} {s : State} {m : MethodId} {args : Array Value} {below : List Frame} {meth : Method} {c : Code} {H : Heap} {locs : List Loc} {cells slots : Nat} {ad : Nat → Nat} {ls : Array Slot} {Q : State → Prop}, p.tables.exec = Jvm.exec → c.code = μ.2.1 → zL ad μ.2.2.1 L ls → (∀ v ∈ st, gd (mz M) v) → (∀ ls' : Array Slot, lv_has ls' μ.2.2.1 ((i, zc ad v) :: (zAs ad L).filter (fun q => !(q.1 == i) && !(q.1 + 1 == i && q.2.category == 2))) → W p l e R s m args below meth c H locs cells slots Q (F0 m pc' ls' (st'.map (zc ad)))) → W p l e R s m args below meth c H locs cells slots Q (F0 m pc ls (st.map (zc ad)))) :
    Xr E d μ pc L st M r M1 := by
  refine ⟨k.1, fun p l e R s m args below meth c H locs cells slots D cA ad A H0 ls b Q hcx hscr hst hS hc hs fin => ?_⟩
  refine hW hcx.1 hcx.2.1 hst.2.2.2.1 hst.2.2.2.2.1 fun ls' h' => ?_
  have hg' := hg hst.2.2.2.2.1 hst.2.2.2.2.2
  exact k.2 p l e R s m args below meth c H locs cells slots D cA ad A H0 ls' b Q hcx hscr ⟨hst.1, hst.2.1, hst.2.2.1, zL_set hn h', hg'.2, gd_setL hg'.1 hst.2.2.2.2.2⟩ hS hc hs fin
theorem x_istore {i : Nat} {x : Int} (hdg : decode μ.2.1 pc = .ok (.istore i, 2)) (hi : i < μ.2.2.1) (hn : zNl L = true) (k : Xr E d μ (pc + 2) (L.set i (some (zi x))) st M r M1) : Xr E d μ pc L (zi x :: st) M r M1 :=
  Xr.opL hn k (fun h _ => ⟨gd_hd h, gd_tl h⟩) (fun hx hb hl _ w => lv_istore hx hb hdg (zL_has hl) hi rfl w)
theorem x_istore_n {i : Nat} {j : Fin 4} {x : Int} (hdg : decode μ.2.1 pc = .ok (.istore_n j, 1)) (hj : (j : Nat) = i) (hi : i < μ.2.2.1) (hn : zNl L = true) (k : Xr E d μ (pc + 1) (L.set i (some (zi x))) st M r M1) : Xr E d μ pc L (zi x :: st) M r M1 :=
  Xr.opL hn k (fun h _ => ⟨gd_hd h, gd_tl h⟩) (fun hx hb hl _ w => lv_istore_n hx hb hdg hj (zL_has hl) hi rfl w)
theorem x_astore {i : Nat} {x : Nat} (hdg : decode μ.2.1 pc = .ok (.astore i, 2)) (hi : i < μ.2.2.1) (hn : zNl L = true) (k : Xr E d μ (pc + 2) (L.set i (some (zr x))) st M r M1) : Xr E d μ pc L (zr x :: st) M r M1 :=
  Xr.opL hn k (fun h _ => ⟨gd_hd h, gd_tl h⟩) (fun hx hb hl _ w => by
    cases x with
    | zero => exact lv_astoreN hx hb hdg (zL_has hl) hi rfl w
    | succ x => exact lv_astore hx hb hdg (zL_has hl) hi rfl w)
theorem x_astore_n {i : Nat} {j : Fin 4} {x : Nat} (hdg : decode μ.2.1 pc = .ok (.astore_n j, 1)) (hj : (j : Nat) = i) (hi : i < μ.2.2.1) (hn : zNl L = true) (k : Xr E d μ (pc + 1) (L.set i (some (zr x))) st M r M1) : Xr E d μ pc L (zr x :: st) M r M1 :=
  Xr.opL hn k (fun h _ => ⟨gd_hd h, gd_tl h⟩) (fun hx hb hl _ w => by
    cases x with
    | zero => exact lv_astore_nN hx hb hdg hj (zL_has hl) hi rfl w
    | succ x => exact lv_astore_n hx hb hdg hj (zL_has hl) hi rfl w)
theorem x_iinc {i : Nat} {n x : Int} (hdg : decode μ.2.1 pc = .ok (.iinc i n, 3)) (hl0 : L[i]? = some (some (zi x))) (hv : inR (x + n)) (hi : i < μ.2.2.1) (hn : zNl L = true) (k : Xr E d μ (pc + 3) (L.set i (some (zi (x + n)))) st M r M1) : Xr E d μ pc L st M r M1 :=
  Xr.opL hn k (fun h _ => ⟨hv, h⟩) (fun {p l e R s m args below meth c H locs cells slots ad ls Q} hx hb hl _ w => by
    obtain ⟨q, hq⟩ := List.getElem?_of_mem (zAs_in (ad := ad) hl0)
    exact lv_iinc (v := Int32.ofInt (x + n)) hx hb hdg (zL_has hl) hq (by rw [Int32.ofInt_add]) hi rfl w)
theorem x_tsIn {dflt lo hi x off : Int} {offs : Array Int} {len i tgt : Nat} (hdg : decode μ.2.1 pc = .ok (.tableswitch dflt lo hi offs, len)) (hx0 : x = lo + i) (hhi : lo + i ≤ hi) (ho : offs[i]? = some off) (ht : (pc : Int) + off = (tgt : Int)) (k : Xr E d μ tgt L st M r M1) : Xr E d μ pc L (zi x :: st) M r M1 :=
  k.op (fun _ h _ => gd_tl h) (fun hx hb _ _ hs _ _ w => by
    have hr := gd_hi hs.2.2.2.2.1
    refine lv_tableIn hx hb hdg (off := off) (by rw [zI_toInt hr]; omega) (by rw [zI_toInt hr]; omega) ?_ ht w
    rw [zI_toInt hr, show (x - lo).toNat = i by omega]
    exact ho)
theorem x_tsOut {dflt lo hi x : Int} {offs : Array Int} {len tgt : Nat} (hdg : decode μ.2.1 pc = .ok (.tableswitch dflt lo hi offs, len)) (hx0 : x < lo ∨ hi < x) (ht : (pc : Int) + dflt = (tgt : Int)) (k : Xr E d μ tgt L st M r M1) : Xr E d μ pc L (zi x :: st) M r M1 :=
  k.op (fun _ h _ => gd_tl h) (fun hx hb _ _ hs _ _ w => by
    have hr := gd_hi hs.2.2.2.2.1
    exact lv_tableOut hx hb hdg (by rw [zI_toInt hr]; exact hx0) ht w)
theorem x_lookup {dflt x off : Int} {ps : Array (Int × Int)} {len tgt : Nat} (hdg : decode μ.2.1 pc = .ok (.lookupswitch dflt ps, len)) (hp : (ps.toList.zip (ps.toList.drop 1)).all (fun (a, next) => a.1 < next.1) = true) (ho : Op.lookupswitch.offset ps.toList dflt x = off) (ht : (pc : Int) + off = (tgt : Int)) (k : Xr E d μ tgt L st M r M1) : Xr E d μ pc L (zi x :: st) M r M1 :=
  k.op (fun _ h _ => gd_tl h) (fun hx hb _ _ hs _ _ w => by
    have hr := gd_hi hs.2.2.2.2.1
    exact lv_lookup hx hb hdg hp (off := off) (by rw [zI_toInt hr]; exact ho) ht w)
theorem x_ifnull {x : Nat} {off : Int} {tgt : Nat} (hdg : decode μ.2.1 pc = .ok (.ifnull off, 3)) (ht : (pc : Int) + off = (tgt : Int)) (kt : x = 0 → Xr E d μ tgt L st M r M1) (kf : x ≠ 0 → Xr E d μ (pc + 3) L st M r M1) : Xr E d μ pc L (zr x :: st) M r M1 := by
  cases x with
  | zero => exact (kt rfl).op (fun _ h _ => gd_tl h) (fun hx hb _ _ _ _ _ w => lv_ifnullN hx hb hdg ht w)
  | succ x => exact (kf (Nat.succ_ne_zero x)).op (fun _ h _ => gd_tl h) (fun hx hb _ _ _ _ _ w => lv_ifnull hx hb hdg w)
theorem x_ifnonnull {x : Nat} {off : Int} {tgt : Nat} (hdg : decode μ.2.1 pc = .ok (.ifnonnull off, 3)) (ht : (pc : Int) + off = (tgt : Int)) (kt : x ≠ 0 → Xr E d μ tgt L st M r M1) (kf : x = 0 → Xr E d μ (pc + 3) L st M r M1) : Xr E d μ pc L (zr x :: st) M r M1 := by
  cases x with
  | zero => exact (kf rfl).op (fun _ h _ => gd_tl h) (fun hx hb _ _ _ _ _ w => lv_ifnonnullN hx hb hdg w)
  | succ x => exact (kt (Nat.succ_ne_zero x)).op (fun _ h _ => gd_tl h) (fun hx hb _ _ _ _ _ w => lv_ifnonnull hx hb hdg ht w)
/-- less is known of the locals -/
theorem Xr.less {L' : List (Option ZV)} (h : ∀ (k : Nat) (v : ZV), L'[k]? = some (some v) → L[k]? = some (some v)) (k : Xr E d μ pc L' st M r M1) : Xr E d μ pc L st M r M1 := by
  refine ⟨k.1, fun p l e R s m args below meth c H locs cells slots D cA ad A H0 ls b Q hcx hscr hst hS hc hs fin => ?_⟩
  refine k.2 p l e R s m args below meth c H locs cells slots D cA ad A H0 ls b Q hcx hscr ⟨hst.1, hst.2.1, hst.2.2.1, ⟨hst.2.2.2.1.1, hst.2.2.2.1.2.1, fun i v hi => hst.2.2.2.1.2.2 i v (h i v hi)⟩, hst.2.2.2.2.1, fun v hv => ?_⟩ hS hc hs fin
  obtain ⟨i, hi⟩ := List.getElem?_of_mem hv
  exact hst.2.2.2.2.2 v (List.mem_of_getElem? (h i v hi))
end ZOPS2
