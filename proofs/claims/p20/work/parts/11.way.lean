/-! the same with a wish for the end: X .. Q: it returns, and Q holds of what it returns and leaves -/
def Xi (d : Nat) (μ : ZMeth) (pc : Nat) (L : List (Option ZV)) (st : List ZV) (M : ZMem) (Q : Int → ZMem → Prop) : Prop := ∃ x M1, Xr none d μ pc L st M (some (zi x)) M1 ∧ Q x M1
def Xq (d : Nat) (μ : ZMeth) (pc : Nat) (L : List (Option ZV)) (st : List ZV) (M : ZMem) (Q : Nat → ZMem → Prop) : Prop := ∃ x M1, Xr none d μ pc L st M (some (zr x)) M1 ∧ Q x M1
def Xv (d : Nat) (μ : ZMeth) (pc : Nat) (L : List (Option ZV)) (st : List ZV) (M : ZMem) (Q : ZMem → Prop) : Prop := ∃ M1, Xr none d μ pc L st M none M1 ∧ Q M1
def Ci (d : Nat) (μ : ZMeth) (args : List ZV) (M : ZMem) (Q : Int → ZMem → Prop) : Prop := ∃ x M1, ClR d μ args M (some (zi x)) M1 ∧ Q x M1
def Cq (d : Nat) (μ : ZMeth) (args : List ZV) (M : ZMem) (Q : Nat → ZMem → Prop) : Prop := ∃ x M1, ClR d μ args M (some (zr x)) M1 ∧ Q x M1
def Cv (d : Nat) (μ : ZMeth) (args : List ZV) (M : ZMem) (Q : ZMem → Prop) : Prop := ∃ M1, ClR d μ args M none M1 ∧ Q M1
section ZX
variable {d : Nat} {μ : ZMeth} {pc pc' tgt : Nat} {L L' : List (Option ZV)} {st st' : List ZV} {M M' : ZMem}
theorem Xi.up {Q : Int → ZMem → Prop} (f : ∀ r M1, Xr none d μ pc' L' st' M' r M1 → Xr none d μ pc L st M r M1) (h : Xi d μ pc' L' st' M' Q) : Xi d μ pc L st M Q := by
  obtain ⟨x, M1, k, q⟩ := h
  exact ⟨x, M1, f _ _ k, q⟩
theorem Xq.up {Q : Nat → ZMem → Prop} (f : ∀ r M1, Xr none d μ pc' L' st' M' r M1 → Xr none d μ pc L st M r M1) (h : Xq d μ pc' L' st' M' Q) : Xq d μ pc L st M Q := by
  obtain ⟨x, M1, k, q⟩ := h
  exact ⟨x, M1, f _ _ k, q⟩
theorem Xv.up {Q : ZMem → Prop} (f : ∀ r M1, Xr none d μ pc' L' st' M' r M1 → Xr none d μ pc L st M r M1) (h : Xv d μ pc' L' st' M' Q) : Xv d μ pc L st M Q := by
  obtain ⟨M1, k, q⟩ := h
  exact ⟨M1, f _ _ k, q⟩
theorem Xi.br {Q : Int → ZMem → Prop} (c : Prop) (f : ∀ r M1, (c → Xr none d μ tgt L st' M r M1) → (¬ c → Xr none d μ pc' L st' M r M1) → Xr none d μ pc L st M r M1) (ht : c → Xi d μ tgt L st' M Q) (hf : ¬ c → Xi d μ pc' L st' M Q) : Xi d μ pc L st M Q := by
  by_cases h : c
  · obtain ⟨x, M1, k, q⟩ := ht h
    exact ⟨x, M1, f _ _ (fun _ => k) (fun n => absurd h n), q⟩
  · obtain ⟨x, M1, k, q⟩ := hf h
    exact ⟨x, M1, f _ _ (fun n => absurd n h) (fun _ => k), q⟩
theorem Xq.br {Q : Nat → ZMem → Prop} (c : Prop) (f : ∀ r M1, (c → Xr none d μ tgt L st' M r M1) → (¬ c → Xr none d μ pc' L st' M r M1) → Xr none d μ pc L st M r M1) (ht : c → Xq d μ tgt L st' M Q) (hf : ¬ c → Xq d μ pc' L st' M Q) : Xq d μ pc L st M Q := by
  by_cases h : c
  · obtain ⟨x, M1, k, q⟩ := ht h
    exact ⟨x, M1, f _ _ (fun _ => k) (fun n => absurd h n), q⟩
  · obtain ⟨x, M1, k, q⟩ := hf h
    exact ⟨x, M1, f _ _ (fun n => absurd n h) (fun _ => k), q⟩
theorem Xv.br {Q : ZMem → Prop} (c : Prop) (f : ∀ r M1, (c → Xr none d μ tgt L st' M r M1) → (¬ c → Xr none d μ pc' L st' M r M1) → Xr none d μ pc L st M r M1) (ht : c → Xv d μ tgt L st' M Q) (hf : ¬ c → Xv d μ pc' L st' M Q) : Xv d μ pc L st M Q := by
  by_cases h : c
  · obtain ⟨M1, k, q⟩ := ht h
    exact ⟨M1, f _ _ (fun _ => k) (fun n => absurd h n), q⟩
  · obtain ⟨M1, k, q⟩ := hf h
    exact ⟨M1, f _ _ (fun n => absurd n h) (fun _ => k), q⟩
theorem Xi.ret {x : Int} {Q : Int → ZMem → Prop} (h : zRet μ pc (some (zi x))) (q : Q x M) : Xi d μ pc L [zi x] M Q := ⟨x, M, x_ret h, q⟩
theorem Xq.ret {x : Nat} {Q : Nat → ZMem → Prop} (h : zRet μ pc (some (zr x))) (q : Q x M) : Xq d μ pc L [zr x] M Q := ⟨x, M, x_ret h, q⟩
theorem Xv.ret {Q : ZMem → Prop} (h : zRet μ pc none) (q : Q M) : Xv d μ pc L [] M Q := ⟨M, x_ret h, q⟩
theorem Ci.of {args : List ZV} {Q : Int → ZMem → Prop} (hp : plainName μ.1.cls = true) (hown : μ.1.cls = μ.2.2.2.2) (hlen : args.length ≤ μ.2.2.1) (hnl : ∀ w ∈ args, ∀ x, w ≠ zl x) (hL : args.map some ++ List.replicate (μ.2.2.1 - args.length) none = L) (k : Xi d μ 0 L [] M Q) : Ci d μ args M Q := by
  subst hL
  obtain ⟨x, M1, k, q⟩ := k
  exact ⟨x, M1, ClR.of hp hown hlen hnl k, q⟩
theorem Cq.of {args : List ZV} {Q : Nat → ZMem → Prop} (hp : plainName μ.1.cls = true) (hown : μ.1.cls = μ.2.2.2.2) (hlen : args.length ≤ μ.2.2.1) (hnl : ∀ w ∈ args, ∀ x, w ≠ zl x) (hL : args.map some ++ List.replicate (μ.2.2.1 - args.length) none = L) (k : Xq d μ 0 L [] M Q) : Cq d μ args M Q := by
  subst hL
  obtain ⟨x, M1, k, q⟩ := k
  exact ⟨x, M1, ClR.of hp hown hlen hnl k, q⟩
theorem Cv.of {args : List ZV} {Q : ZMem → Prop} (hp : plainName μ.1.cls = true) (hown : μ.1.cls = μ.2.2.2.2) (hlen : args.length ≤ μ.2.2.1) (hnl : ∀ w ∈ args, ∀ x, w ≠ zl x) (hL : args.map some ++ List.replicate (μ.2.2.1 - args.length) none = L) (k : Xv d μ 0 L [] M Q) : Cv d μ args M Q := by
  subst hL
  obtain ⟨M1, k, q⟩ := k
  exact ⟨M1, ClR.of hp hown hlen hnl k, q⟩
/-- the stack below a call is small -/
def zcnt : List ZV → Nat
  | [] => 0
  | .inl _ :: t => 1 + zcnt t
  | .inr (.inl _) :: t => 1 + zcnt t
  | .inr (.inr _) :: t => 2 + zcnt t
theorem zcnt_eq (ad : Nat → Nat) : ∀ st : List ZV, ((st.map (zc ad)).map fun v => v.category).sum = zcnt st
  | [] => rfl
  | .inl x :: t => by
    have := zcnt_eq ad t
    show (1 + ((t.map (zc ad)).map fun v => v.category).sum) = 1 + zcnt t
    rw [this]
  | .inr (.inl x) :: t => by
    have := zcnt_eq ad t
    show ((va_rf (zo ad x)).category + ((t.map (zc ad)).map fun v => v.category).sum) = 1 + zcnt t
    rw [this, zc_cat]
  | .inr (.inr x) :: t => by
    have := zcnt_eq ad t
    show (2 + ((t.map (zc ad)).map fun v => v.category).sum) = 2 + zcnt t
    rw [this]
theorem zs8 (h : Nat.ble (zcnt st) 8 = true) (ad : Nat → Nat) : ((st.map (zc ad)).map fun v => v.category).sum ≤ 8 := by
  rw [zcnt_eq]
  exact Nat.le_of_ble_eq_true h
/-- less known: place by place -/
def zsub : List (Option ZV) → List (Option ZV) → Prop
  | [], _ => True
  | none :: a, _ :: b => zsub a b
  | some v :: a, w :: b => some v = w ∧ zsub a b
  | _ :: _, [] => False
theorem zsub_at : ∀ {L' L : List (Option ZV)}, zsub L' L → ∀ (k : Nat) (v : ZV), L'[k]? = some (some v) → L[k]? = some (some v)
  | [], _, _, k, v, h => by simp at h
  | none :: a, _ :: b, hs, 0, v, h => by simp at h
  | none :: a, _ :: b, hs, k + 1, v, h => by
    have := zsub_at (L' := a) (L := b) hs k v (by simpa using h)
    simpa using this
  | some u :: a, w :: b, hs, 0, v, h => by
    simp at h
    subst h
    simpa using hs.1.symm
  | some u :: a, w :: b, hs, k + 1, v, h => by
    have := zsub_at (L' := a) (L := b) hs.2 k v (by simpa using h)
    simpa using this
theorem x_less {r : Option ZV} {M1 : ZMem} (h : zsub L' L) (k : Xr none d μ pc L' st M r M1) : Xr none d μ pc L st M r M1 := Xr.less (zsub_at h) k
theorem x_lcmp {E : ZE} {r : Option ZV} {M1 : ZMem} {x y : Int} (hdg : decode μ.2.1 pc = .ok (.lcmp, 1)) (k : Xr E d μ (pc + 1) L (zi (if y < x then 1 else if x = y then 0 else -1) :: st) M r M1) : Xr E d μ pc L (zl y :: zl x :: st) M r M1 :=
  k.op (fun _ h _ => gd_cons (by
    show inR _
    split
    · exact ⟨by decide, by decide⟩
    · split
      · exact ⟨by decide, by decide⟩
      · exact ⟨by decide, by decide⟩) (gd_tl (gd_tl h))) (fun hx hb _ _ hs _ _ w => by
    have hy : inL y := hs.2.2.2.2.1 _ List.mem_cons_self
    have hx' : inL x := hs.2.2.2.2.1 _ (List.mem_cons_of_mem _ List.mem_cons_self)
    refine W.lcmp hx hb hdg ?_
    have e : lg_cmp (Int64.ofInt x) (Int64.ofInt y) = Int32.ofInt (if y < x then 1 else if x = y then 0 else -1) := by
      unfold lg_cmp
      by_cases h1 : y < x
      · rw [if_pos ((zJ_lt hy hx').mpr h1), if_pos h1]; rfl
      · rw [if_neg (fun q => h1 ((zJ_lt hy hx').mp q)), if_neg h1]
        by_cases h2 : x = y
        · rw [if_pos (by rw [h2]), if_pos h2]; rfl
        · rw [if_neg (fun q => h2 (by rw [← zJ_toInt hx', ← zJ_toInt hy, q])), if_neg h2]; rfl
    rw [e]
    exact w)
/-! the layout: which cells an object of a class has, by its number in a fixed memory K -/
def KW (K M : ZMem) : Prop := mS M = mS K ∧ mz M = mz K ∧ mw M = mw K ∧ ∀ a k, (mS K a).1 ≠ 4 → mR M a k = mR K a k
theorem KW.s {K : ZMem} (h : KW K M) (o : Nat) : mS M o = mS K o := by rw [h.1]
theorem KW.sI {K : ZMem} (h : KW K M) (o k : Nat) (x : Int) : KW K (sI M o k x) := h
theorem KW.sA {K : ZMem} (h : KW K M) (o : Nat) (f : Nat → Int) : KW K (sA M o f) := h
theorem KW.sR {K : ZMem} (h : KW K M) (o k r : Nat) (ho : (mS K o).1 = 4) : KW K (sR M o k r) := ⟨h.1, h.2.1, h.2.2.1, fun a j ha => by rw [mR_sR, if_neg (fun q => ha (by rw [q.1]; exact ho))]; exact h.2.2.2 a j ha⟩
def WayAt (K : ZMem) (o : Nat) : Prop := (mS K o).1 = 18 ∧ mR K o 0 = o + 1 ∧ mR K o 1 = o + 2 ∧ mR K o 2 = o + 3 ∧ mS K (o + 1) = (1, 8) ∧ mS K (o + 2) = (1, 7) ∧ mS K (o + 3) = (1, 7)
def PointAt (K : ZMem) (o : Nat) : Prop := (mS K o).1 = 12 ∧ mR K o 0 = o + 1 ∧ mR K o 1 = o + 5 ∧ mS K (o + 5) = (1, 6) ∧ WayAt K (o + 1)
def PointsAt (K : ZMem) (o : Nat) : Prop := (mS K o).1 = 13 ∧ mR K o 0 = o + 1 ∧ mS K (o + 1) = (4, 31)
def FormulasAt (K : ZMem) (o : Nat) : Prop := (mS K o).1 = 11 ∧ mR K o 0 = o + 1 ∧ mR K o 1 = o + 2 ∧ mR K o 2 = o + 3 ∧ mS K (o + 1) = (1, 150) ∧ mS K (o + 2) = (1, 150) ∧ mS K (o + 3) = (1, 150)
def ProgramAt (K : ZMem) (o : Nat) : Prop := (mS K o).1 = 14 ∧ mR K o 0 = o + 1 ∧ mR K o 1 = o + 2 ∧ mR K o 2 = o + 3 ∧ mR K o 3 = o + 4 ∧ mR K o 4 = o + 5 ∧ mR K o 5 = o + 6 ∧ mR K o 6 = o + 7 ∧ mR K o 7 = o + 8 ∧ mR K o 8 = o + 9 ∧ mR K o 9 = o + 13 ∧ mS K (o + 1) = (1, 40) ∧ mS K (o + 2) = (1, 40) ∧ mS K (o + 3) = (1, 40) ∧ mS K (o + 4) = (1, 40) ∧ mS K (o + 5) = (1, 40) ∧ mS K (o + 6) = (1, 40) ∧ mS K (o + 7) = (1, 40) ∧ mS K (o + 8) = (1, 240) ∧ FormulasAt K (o + 9) ∧ FormulasAt K (o + 13)
def AnswersAt (K : ZMem) (o : Nat) : Prop := (mS K o).1 = 10 ∧ mR K o 0 = o + 1 ∧ mS K (o + 1) = (1, 720)
def SearchAt (K : ZMem) (o : Nat) : Prop := (mS K o).1 = 16 ∧ mR K o 0 = o + 1 ∧ mR K o 1 = o + 18 ∧ mR K o 2 = o + 20 ∧ mR K o 3 = o + 208 ∧ mR K o 4 = o + 396 ∧ mR K o 5 = o + 425 ∧ mR K o 6 = o + 426 ∧ mS K (o + 396) = (5, 7) ∧ mS K (o + 425) = (1, 7) ∧ mS K (o + 426) = (1, 9) ∧ ProgramAt K (o + 1) ∧ AnswersAt K (o + 18) ∧ PointsAt K (o + 20) ∧ PointsAt K (o + 208) ∧ ∀ i, i < 7 → mR K (o + 396) i = o + 397 + 4 * i ∧ WayAt K (o + 397 + 4 * i)
def TapeAt (K : ZMem) (o : Nat) : Prop := (mS K o).1 = 17 ∧ mR K o 0 = o + 1 ∧ mS K (o + 1) = (1, 150)
def ReaderAt (K : ZMem) (o : Nat) : Prop := (mS K o).1 = 15 ∧ mR K o 0 = 3 ∧ mR K o 1 = o + 1 ∧ mR K o 2 = o + 2 ∧ mR K o 3 = o + 3 ∧ mS K (o + 1) = (1, 6) ∧ mS K (o + 2) = (1, 7) ∧ TapeAt K 3 ∧ ProgramAt K (o + 3)
def TopAt (K : ZMem) (o : Nat) : Prop := (mS K o).1 = 19 ∧ mR K o 0 = 3 ∧ mR K o 1 = 5 ∧ mR K o 2 = 25 ∧ mR K o 3 = 26 ∧ mR K o 4 = 1803 ∧ TapeAt K 3 ∧ ReaderAt K 5 ∧ mS K 25 = (2, 4) ∧ mS K 26 = (3, 4) ∧ SearchAt K 1803 ∧ ∀ i, i < 4 → mR K 25 i = 27 + 444 * i ∧ ProgramAt K (27 + 444 * i) ∧ mR K 26 i = 44 + 444 * i ∧ SearchAt K (44 + 444 * i)
def ModelAt (K : ZMem) (o : Nat) : Prop := (mS K o).1 = 20 ∧ mR K o 0 = o + 1 ∧ mR K o 8 = o + 2 ∧ mR K o 9 = o + 3 ∧ mR K o 10 = o + 4 ∧ mR K o 11 = o + 5 ∧ mR K o 12 = o + 6 ∧ mR K o 13 = o + 7 ∧ mR K o 14 = o + 8 ∧ mR K o 15 = o + 9 ∧ mR K o 20 = o + 10 ∧ mS K (o + 1) = (1, 150) ∧ mS K (o + 2) = (1, 70200) ∧ mS K (o + 3) = (1, 70200) ∧ mS K (o + 4) = (1, 70200) ∧ mS K (o + 5) = (1, 70200) ∧ mS K (o + 6) = (1, 70200) ∧ mS K (o + 7) = (1, 4) ∧ mS K (o + 8) = (1, 4) ∧ mS K (o + 9) = (1, 19245) ∧ mS K (o + 10) = (1, 6)
end ZX
