/-! the class's draft: what changes of it -/
def pU (P : Pg) (j k : Nat) (x : Int) : Pg := (fun i => if i = j then fup (P.1 j) k x else P.1 i, P.2)
def pSz (P : Pg) (x : Int) : Pg := (P.1, P.2.1, P.2.2.1, x)
theorem pU_at {P : Pg} {j k i t : Nat} {x : Int} : (pU P j k x).1 i t = if i = j ∧ t = k then x else P.1 i t := by
  show (if i = j then fup (P.1 j) k x else P.1 i) t = _
  by_cases c : i = j
  · subst c
    rw [if_pos rfl]
    show (if t = k then x else P.1 i t) = _
    by_cases c2 : t = k
    · rw [if_pos c2, if_pos ⟨rfl, c2⟩]
    · rw [if_neg c2, if_neg (fun q => c2 q.2)]
  · rw [if_neg c, if_neg (fun q => c q.1)]
theorem gG_set {M : ZMem} {o j k : Nat} {x : Int} (hj : j < 7) (hk : k < 40) : gG (sI M (o + 1 + j) k x) o = pU (gG M o) j k x := by
  have F : Fr (fun q => q = o + 1 + j) M (sI M (o + 1 + j) k x) := Fr.refl.sI rfl
  show (_, _, _, _) = (_, _, _, _)
  rw [gF_fr (o := o + 9) F fun i hi q => by omega, gF_fr (o := o + 13) F fun i hi q => by omega, mI_sI, if_neg (by omega)]
  refine Prod.ext ?_ rfl
  funext i
  show (if i < 7 then tq 0 40 (mI (sI M (o + 1 + j) k x) (o + 1 + i)) else if i = 7 then tq 0 240 (mI (sI M (o + 1 + j) k x) (o + 8)) else fun _ => 0) = if i = j then fup ((gG M o).1 j) k x else (gG M o).1 i
  by_cases c : i = j
  · subst c
    rw [if_pos hj, if_pos rfl]
    have e : (gG M o).1 i = tq 0 40 (mI M (o + 1 + i)) := if_pos hj
    rw [e]
    exact tq_fup (Nat.zero_le _) hk fun t => by rw [mI_sI]; by_cases q : t = k <;> simp [q]
  · rw [if_neg c]
    show _ = if i < 7 then tq 0 40 (mI M (o + 1 + i)) else if i = 7 then tq 0 240 (mI M (o + 8)) else fun _ => 0
    by_cases c7 : i < 7
    · rw [if_pos c7, if_pos c7]
      exact tq_congr fun t _ _ => by rw [mI_sI, if_neg (by omega)]
    · rw [if_neg c7, if_neg c7]
      by_cases c8 : i = 7
      · rw [if_pos c8, if_pos c8]
        exact tq_congr fun t _ _ => by rw [mI_sI, if_neg (by omega)]
      · rw [if_neg c8, if_neg c8]
theorem gG_set7 {M : ZMem} {o k : Nat} {x : Int} (hk : k < 240) : gG (sI M (o + 8) k x) o = pU (gG M o) 7 k x := by
  have F : Fr (fun q => q = o + 8) M (sI M (o + 8) k x) := Fr.refl.sI rfl
  show (_, _, _, _) = (_, _, _, _)
  rw [gF_fr (o := o + 9) F fun i hi q => by omega, gF_fr (o := o + 13) F fun i hi q => by omega, mI_sI, if_neg (by omega)]
  refine Prod.ext ?_ rfl
  funext i
  show (if i < 7 then tq 0 40 (mI (sI M (o + 8) k x) (o + 1 + i)) else if i = 7 then tq 0 240 (mI (sI M (o + 8) k x) (o + 8)) else fun _ => 0) = if i = 7 then fup ((gG M o).1 7) k x else (gG M o).1 i
  by_cases c7 : i < 7
  · rw [if_pos c7, if_neg (by omega)]
    show _ = if i < 7 then tq 0 40 (mI M (o + 1 + i)) else if i = 7 then tq 0 240 (mI M (o + 8)) else fun _ => 0
    rw [if_pos c7]
    exact tq_congr fun t _ _ => by rw [mI_sI, if_neg (by omega)]
  · rw [if_neg c7]
    by_cases c8 : i = 7
    · rw [if_pos c8, if_pos c8]
      have e : (gG M o).1 7 = tq 0 240 (mI M (o + 8)) := rfl
      rw [e]
      exact tq_fup (Nat.zero_le _) hk fun t => by rw [mI_sI]; by_cases q : t = k <;> simp [q]
    · rw [if_neg c8, if_neg c8]
      show _ = if i < 7 then tq 0 40 (mI M (o + 1 + i)) else if i = 7 then tq 0 240 (mI M (o + 8)) else fun _ => 0
      rw [if_neg c7, if_neg c8]
theorem gG_sz {M : ZMem} {o : Nat} {x : Int} : gG (sI M o 10 x) o = pSz (gG M o) x := by
  have F : Fr (fun q => q = o) M (sI M o 10 x) := Fr.refl.sI rfl
  show (_, _, _, _) = (_, _, _, _)
  rw [gF_fr (o := o + 9) F fun i hi q => by omega, gF_fr (o := o + 13) F fun i hi q => by omega, mI_sI_eq]
  refine Prod.ext ?_ rfl
  funext i
  show (if i < 7 then tq 0 40 (mI (sI M o 10 x) (o + 1 + i)) else if i = 7 then tq 0 240 (mI (sI M o 10 x) (o + 8)) else fun _ => 0) = if i < 7 then tq 0 40 (mI M (o + 1 + i)) else if i = 7 then tq 0 240 (mI M (o + 8)) else fun _ => 0
  by_cases c7 : i < 7
  · rw [if_pos c7, if_pos c7]
    exact tq_congr fun t _ _ => by rw [mI_sI, if_neg (by omega)]
  · rw [if_neg c7, if_neg c7]
    by_cases c8 : i = 7
    · rw [if_pos c8, if_pos c8]
      exact tq_congr fun t _ _ => by rw [mI_sI, if_neg (by omega)]
    · rw [if_neg c8, if_neg c8]
def pAdd (P : Pg) (kd dt ar lv : Int) : Pg := pSz (pU (pU (pU (pU (pU (pU (pU P 0 P.2.2.2.toNat kd) 1 P.2.2.2.toNat dt) 2 P.2.2.2.toNat P.2.1.2.2.2.2) 3 P.2.2.2.toNat (-1)) 4 P.2.2.2.toNat ar) 5 P.2.2.2.toNat lv) 6 P.2.2.2.toNat 0) (P.2.2.2 + 1)
def pLinkB (P : Pg) (b s : Int) : Pg := if gHas P b then pU P 3 b.toNat s else P
def pSlot (P : Pg) (ar : Int) : Int := ar * 6 + P.1 6 ar.toNat - 1
def pLinkF (P : Pg) (ar s : Int) : Pg := if gHas P ar ∧ 0 ≤ pSlot P ar ∧ pSlot P ar < 240 then pU P 7 (pSlot P ar).toNat s else P
def pPart (P : Pg) (s : Int) : Pg := if gHas P s ∧ P.1 6 s.toNat < 6 then pU P 6 s.toNat (P.1 6 s.toNat + 1) else P
def pDet (P : Pg) (s x : Int) : Pg := if gHas P s then pU P 1 s.toNat x else P
theorem pAdd_at {P : Pg} {kd dt ar lv : Int} {i t : Nat} : (pAdd P kd dt ar lv).1 i t = if t = P.2.2.2.toNat then (if i = 0 then kd else if i = 1 then dt else if i = 2 then P.2.1.2.2.2.2 else if i = 3 then -1 else if i = 4 then ar else if i = 5 then lv else if i = 6 then 0 else P.1 i t) else P.1 i t := by
  show (pU (pU (pU (pU (pU (pU (pU P 0 P.2.2.2.toNat kd) 1 P.2.2.2.toNat dt) 2 P.2.2.2.toNat P.2.1.2.2.2.2) 3 P.2.2.2.toNat (-1)) 4 P.2.2.2.toNat ar) 5 P.2.2.2.toNat lv) 6 P.2.2.2.toNat 0).1 i t = _
  rw [pU_at, pU_at, pU_at, pU_at, pU_at, pU_at, pU_at]
  by_cases c : t = P.2.2.2.toNat
  · rw [if_pos c]
    by_cases c0 : i = 0
    · rw [if_neg (by omega), if_neg (by omega), if_neg (by omega), if_neg (by omega), if_neg (by omega), if_neg (by omega), if_pos ⟨c0, c⟩, if_pos c0]
    · rw [if_neg c0]
      by_cases c1 : i = 1
      · rw [if_neg (by omega), if_neg (by omega), if_neg (by omega), if_neg (by omega), if_neg (by omega), if_pos ⟨c1, c⟩, if_pos c1]
      · rw [if_neg c1]
        by_cases c2 : i = 2
        · rw [if_neg (by omega), if_neg (by omega), if_neg (by omega), if_neg (by omega), if_pos ⟨c2, c⟩, if_pos c2]
        · rw [if_neg c2]
          by_cases c3 : i = 3
          · rw [if_neg (by omega), if_neg (by omega), if_neg (by omega), if_pos ⟨c3, c⟩, if_pos c3]
          · rw [if_neg c3]
            by_cases c4 : i = 4
            · rw [if_neg (by omega), if_neg (by omega), if_pos ⟨c4, c⟩, if_pos c4]
            · rw [if_neg c4]
              by_cases c5 : i = 5
              · rw [if_neg (by omega), if_pos ⟨c5, c⟩, if_pos c5]
              · rw [if_neg c5]
                by_cases c6 : i = 6
                · rw [if_pos ⟨c6, c⟩, if_pos c6]
                · rw [if_neg c6, if_neg (by omega), if_neg (by omega), if_neg (by omega), if_neg (by omega), if_neg (by omega), if_neg (by omega), if_neg (by omega)]
  · rw [if_neg c, if_neg (by omega), if_neg (by omega), if_neg (by omega), if_neg (by omega), if_neg (by omega), if_neg (by omega), if_neg (by omega)]
theorem pe1 {x : Int} {p : Prop} (h : -2147483648 ≤ x ∧ x ≤ 2147483647) (k : p) : inR x ∧ p := ⟨h, k⟩
theorem pe2 {x y : Int} {p : Prop} (h : x ≤ y) (k : p) : x ≤ y ∧ p := ⟨h, k⟩
theorem pe3 {x y : Int} {p : Prop} (h : x < y) (k : p) : x < y ∧ p := ⟨h, k⟩
theorem gHas_n1 {P : Pg} : ¬ gHas P (-1) := fun q => by have := q.1; omega
section DRAFT
variable {d : Nat} {K M M' : ZMem} {o : Nat}
theorem gG_at {j k : Nat} (hj : j < 7) (hk : k < 40) : (gG M o).1 j k = mI M (o + 1 + j) k := by
  have e : (gG M o).1 j = tq 0 40 (mI M (o + 1 + j)) := if_pos hj
  rw [e]; exact tq_at (Nat.zero_le _) hk
theorem s_padd {kd dt ar lv : Int} {Q : Int → ZMem → Prop} (hK : KW K M) (h0 : ProgramAt K o) (h1 : 0 ≤ (gG M o).2.2.2) (h2 : (gG M o).2.2.2 < 40) (q : ∀ M', KW K M' → Fr (fun q => q = o ∨ bk (o + 1) 7 q) M M' → (∀ k, k ≠ 10 → mI M' o k = mI M o k) → gG M' o = pAdd (gG M o) kd dt ar lv → Q (gG M o).2.2.2 M') : Ci d q4_addStatement [zr o, zi kd, zi dt, zi ar, zi lv] M Q := by
  have e10 : mI M o 10 = (gG M o).2.2.2 := rfl
  have e4 : mI M (o + 9) 4 = (gG M o).2.1.2.2.2.2 := rfl
  refine B4_addStatement o kd dt ar lv hK h0 ⟨fun c => absurd c (by omega), fun _ => ⟨fun _ => ?_, fun c => absurd c (by omega)⟩⟩
  rw [e10]
  have r9 : ∀ a b x y, mI (sI (sI M (o + 1) a x) (o + 2) b y) (o + 9) 4 = (gG M o).2.1.2.2.2.2 := fun a b x y => by rw [mI_sI, if_neg (by omega), mI_sI, if_neg (by omega), e4]
  rw [r9]
  generalize hs : (gG M o).2.2.2.toNat = s at *
  have hs40 : s < 40 := by omega
  have r10 : ∀ x1 x2 x3 x4 x5 x6 x7, mI (sI (sI (sI (sI (sI (sI (sI M (o + 1) s x1) (o + 2) s x2) (o + 3) s x3) (o + 4) s x4) (o + 5) s x5) (o + 6) s x6) (o + 7) s x7) o 10 = (gG M o).2.2.2 := fun x1 x2 x3 x4 x5 x6 x7 => by
    rw [mI_sI, if_neg (by omega), mI_sI, if_neg (by omega), mI_sI, if_neg (by omega), mI_sI, if_neg (by omega), mI_sI, if_neg (by omega), mI_sI, if_neg (by omega), mI_sI, if_neg (by omega), e10]
  rw [r10]
  repeat (first | refine pe1 (by omega) ?_ | refine pe2 (by omega) ?_ | refine pe3 (by omega) ?_)
  refine q _ ?_ ((((((((Fr.refl.sI (Or.inr ⟨by omega, by omega⟩)).sI (Or.inr ⟨by omega, by omega⟩)).sI (Or.inr ⟨by omega, by omega⟩)).sI (Or.inr ⟨by omega, by omega⟩)).sI (Or.inr ⟨by omega, by omega⟩)).sI (Or.inr ⟨by omega, by omega⟩)).sI (Or.inr ⟨by omega, by omega⟩)).sI (Or.inl rfl)) (fun k hk => ?_) ?_
  · exact hK
  · rw [mI_sI, if_neg (by omega), mI_sI, if_neg (by omega), mI_sI, if_neg (by omega), mI_sI, if_neg (by omega), mI_sI, if_neg (by omega), mI_sI, if_neg (by omega), mI_sI, if_neg (by omega), mI_sI, if_neg (by omega)]
  · rw [gG_sz, show o + 7 = o + 1 + 6 from rfl, gG_set (by decide) hs40, show o + 6 = o + 1 + 5 from rfl, gG_set (by decide) hs40, show o + 5 = o + 1 + 4 from rfl, gG_set (by decide) hs40, show o + 4 = o + 1 + 3 from rfl, gG_set (by decide) hs40, show o + 3 = o + 1 + 2 from rfl, gG_set (by decide) hs40, show o + 2 = o + 1 + 1 from rfl, gG_set (by decide) hs40, show o + 1 = o + 1 + 0 from rfl, gG_set (by decide) hs40]
    unfold pAdd
    rw [hs]
/-- one field of the draft -/
def fd (o : Nat) (M M' : ZMem) : Prop := Fr (fun q => bk (o + 1) 8 q) M M'
theorem s_linkB {b s : Int} {Q : ZMem → Prop} (hd : 1 ≤ d) (hK : KW K M) (h0 : ProgramAt K o) (q : ∀ M', KW K M' → fd o M M' → gG M' o = pLinkB (gG M o) b s → Q M') : Cv d q4_linkBehind [zr o, zi b, zi s] M Q := by
  obtain ⟨d, rfl⟩ : ∃ e, d = e + 1 := ⟨d - 1, by omega⟩
  refine B4_linkBehind o b s hK h0 ((s_has hK h0).pure ⟨hK, fun c => ?_, fun c => ?_⟩)
  · have hh : ¬ gHas (gG M o) b := fun g => by rw [if_pos g] at c; cases c
    refine q M hK Fr.refl ?_
    unfold pLinkB
    rw [if_neg hh]
  · have hh : gHas (gG M o) b := by
      by_cases g : gHas (gG M o) b
      · exact g
      · rw [if_neg g] at c; exact absurd rfl c
    have hb := hh
    obtain ⟨b1, b2, b3⟩ := hb
    refine ⟨b1, b3, q _ (hK.sI _ _ _) (Fr.refl.sI ⟨by omega, by omega⟩) ?_⟩
    unfold pLinkB
    rw [if_pos hh, show o + 4 = o + 1 + 3 from rfl, gG_set (by decide) (by omega)]
theorem s_setDet {b s : Int} {Q : ZMem → Prop} (hd : 1 ≤ d) (hK : KW K M) (h0 : ProgramAt K o) (q : ∀ M', KW K M' → fd o M M' → gG M' o = pDet (gG M o) b s → Q M') : Cv d q4_setDetail [zr o, zi b, zi s] M Q := by
  obtain ⟨d, rfl⟩ : ∃ e, d = e + 1 := ⟨d - 1, by omega⟩
  refine B4_setDetail o b s hK h0 ((s_has hK h0).pure ⟨hK, fun c => ?_, fun c => ?_⟩)
  · have hh : ¬ gHas (gG M o) b := fun g => by rw [if_pos g] at c; cases c
    refine q M hK Fr.refl ?_
    unfold pDet
    rw [if_neg hh]
  · have hh : gHas (gG M o) b := by
      by_cases g : gHas (gG M o) b
      · exact g
      · rw [if_neg g] at c; exact absurd rfl c
    have hb := hh
    obtain ⟨b1, b2, b3⟩ := hb
    refine ⟨b1, b3, q _ (hK.sI _ _ _) (Fr.refl.sI ⟨by omega, by omega⟩) ?_⟩
    unfold pDet
    rw [if_pos hh, show o + 2 = o + 1 + 1 from rfl, gG_set (by decide) (by omega)]
theorem s_linkF {ar s : Int} {Q : ZMem → Prop} (hd : 1 ≤ d) (hK : KW K M) (h0 : ProgramAt K o) (hp : ∀ k, 0 ≤ (gG M o).1 6 k ∧ (gG M o).1 6 k ≤ 6) (q : ∀ M', KW K M' → fd o M M' → gG M' o = pLinkF (gG M o) ar s → Q M') : Cv d q4_linkFirst [zr o, zi ar, zi s] M Q := by
  obtain ⟨d, rfl⟩ : ∃ e, d = e + 1 := ⟨d - 1, by omega⟩
  refine B4_linkFirst o ar s hK h0 ((s_has hK h0).pure ⟨hK, fun c => ?_, fun c => ?_⟩)
  · have hh : ¬ gHas (gG M o) ar := fun g => by rw [if_pos g] at c; cases c
    refine q M hK Fr.refl ?_
    unfold pLinkF
    rw [if_neg (fun q => hh q.1)]
  · have hh : gHas (gG M o) ar := by
      by_cases g : gHas (gG M o) ar
      · exact g
      · rw [if_neg g] at c; exact absurd rfl c
    have hb := hh
    obtain ⟨b1, b2, b3⟩ := hb
    have e6 : mI M (o + 7) ar.toNat = (gG M o).1 6 ar.toNat := (gG_at (j := 6) (by decide) (by omega)).symm
    have hp6 := hp ar.toNat
    rw [e6]
    repeat (first | refine pe1 (by omega) ?_ | refine pe2 (by omega) ?_ | refine pe3 (by omega) ?_)
    have no : ¬ (0 ≤ pSlot (gG M o) ar ∧ pSlot (gG M o) ar < 240) → Q M := fun c2 => by
      refine q M hK Fr.refl ?_
      unfold pLinkF
      rw [if_neg (fun q => c2 q.2)]
    refine ⟨fun c2 => no (by unfold pSlot; omega), fun c2 => ⟨fun c3 => no (by unfold pSlot; omega), fun c3 => ?_⟩⟩
    repeat (first | refine pe1 (by omega) ?_ | refine pe2 (by omega) ?_ | refine pe3 (by omega) ?_)
    refine q _ (hK.sI _ _ _) (Fr.refl.sI ⟨by omega, by omega⟩) ?_
    unfold pLinkF
    rw [if_pos ⟨hh, by unfold pSlot; omega, by unfold pSlot; omega⟩, gG_set7 (by omega)]
    rfl
theorem s_addPart {s : Int} {Q : Int → ZMem → Prop} (hd : 1 ≤ d) (hK : KW K M) (h0 : ProgramAt K o) (hp : ∀ k, 0 ≤ (gG M o).1 6 k ∧ (gG M o).1 6 k ≤ 6) (q1 : gHas (gG M o) s ∧ (gG M o).1 6 s.toNat < 6 → ∀ M', KW K M' → fd o M M' → gG M' o = pPart (gG M o) s → Q 1 M') (q0 : ¬ (gHas (gG M o) s ∧ (gG M o).1 6 s.toNat < 6) → Q 0 M) : Ci d q4_addPart [zr o, zi s] M Q := by
  obtain ⟨d, rfl⟩ : ∃ e, d = e + 1 := ⟨d - 1, by omega⟩
  refine B4_addPart o s hK h0 ((s_has hK h0).pure ⟨hK, fun c => ?_, fun c => ?_⟩)
  · have hh : ¬ gHas (gG M o) s := fun g => by rw [if_pos g] at c; cases c
    exact q0 fun q => hh q.1
  · have hh : gHas (gG M o) s := by
      by_cases g : gHas (gG M o) s
      · exact g
      · rw [if_neg g] at c; exact absurd rfl c
    have hb := hh
    obtain ⟨b1, b2, b3⟩ := hb
    have e6 : mI M (o + 7) s.toNat = (gG M o).1 6 s.toNat := (gG_at (j := 6) (by decide) (by omega)).symm
    have hp6 := hp s.toNat
    rw [e6]
    refine ⟨b1, b3, fun c2 => ?_, fun c2 => q0 fun q => c2 q.2⟩
    repeat (first | refine pe1 (by omega) ?_ | refine pe2 (by omega) ?_ | refine pe3 (by omega) ?_)
    refine q1 ⟨hh, c2⟩ _ (hK.sI _ _ _) (Fr.refl.sI ⟨by omega, by omega⟩) ?_
    unfold pPart
    rw [if_pos ⟨hh, c2⟩, show o + 7 = o + 1 + 6 from rfl, gG_set (by decide) (by omega)]
end DRAFT
