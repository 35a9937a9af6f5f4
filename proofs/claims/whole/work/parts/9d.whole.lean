/-! no statement touches the price -/
def pz (S : St) : Fm := (zg S).2.2.1
theorem pz_add {S : St} {kd dt : Int} : pz (zAdd S kd dt) = pz S := by
  have e := zAdd_2 (S := S) (kd := kd) (dt := dt)
  have e2 := congrArg (fun x : Fm × Fm × Int => x.2.1) e
  exact e2
theorem pz_open {S : St} {s : Int} : pz (zOpen S s).2 = pz S := by
  unfold zOpen
  split
  · show (pPart (zg S) s).2.2.1 = _
    rw [pPart_2]; rfl
  · rfl
theorem pz_form {tp : Nat → Int} {N : Nat} {S : St} : pz (zForm tp N S).2 = pz S := rfl
theorem pz_then {r : Int × St} {k : St → Int × St} {F : Fm} (h : pz r.2 = F) (g : ∀ S, pz S = F → pz (k S).2 = F) : pz (zThen r k).2 = F := by
  unfold zThen
  split
  · exact g _ h
  · exact h
theorem pz_sign {tp : Nat → Int} {c : Int} {S : St} : pz (zSign tp c S).2 = pz S := by
  unfold zSign
  split <;> rfl
theorem pz_among {tp : Nat → Int} {N : Nat} : ∀ (j : Nat) (S : St), pz (zAmong tp N j S).2 = pz S
  | 0, S => rfl
  | j + 1, S => by
    rw [zAmong]
    refine pz_then rfl fun S1 h1 => ?_
    show pz (if tp S1.1 = 44 then zAmong tp N j (if j = 0 then S1 else zP S1 (S1.1 + 1)) else zSign tp 125 S1).2 = _
    split
    · rw [pz_among j]
      split
      · exact h1
      · exact h1
    · rw [pz_sign]; exact h1
theorem pz_choose {tp : Nat → Int} {N : Nat} {S : St} {v : Int} : pz (zChoose tp N S v).2 = pz S := by
  unfold zChoose
  split
  · rw [pz_among]
    exact pz_add
  · refine pz_then pz_add fun S1 h1 => ?_
    refine pz_then (pz_sign.trans h1) fun S2 h2 => h2
theorem pz_test {tp : Nat → Int} {N : Nat} {S : St} : pz (zTest tp N S).2 = pz S := by
  unfold zTest
  split
  · refine pz_then pz_add fun S1 h1 => ?_
    show pz (if zSg (tp S1.1) then zForm tp N (zP (zDet S1 (zsz S) (tp S1.1)) (S1.1 + 1)) else (0, S1)).2 = _
    split
    · show (pDet (zg S1) (zsz S) (tp S1.1)).2.2.1 = _
      rw [pDet_2]; exact h1
    · exact h1
  · rfl
theorem pz_stmt {tp : Nat → Int} {N : Nat} {S : St} : pz (zStmt tp N S).2 = pz S := by
  unfold zStmt
  split
  · rfl
  split
  · exact pz_open.trans pz_add
  split
  · exact pz_open.trans pz_add
  split
  · split
    · exact pz_open.trans pz_add
    · rfl
  split
  · exact pz_add
  split
  · exact pz_open.trans pz_add
  split
  · exact pz_add
  split
  · exact pz_choose
  · exact pz_test
theorem pz_behind {tp : Nat → Int} {n : Nat} {S : St} : pz (zBehind tp n S).2 = pz S := by
  unfold zBehind
  split
  · rfl
  split
  · split
    · show (pPart (zg S) (zAr S)).2.2.1 = _
      rw [pPart_2]; rfl
    · rfl
  split
  · rfl
  split <;> rfl
theorem pz_step {tp : Nat → Int} {N n : Nat} {S : St} : pz (zStep tp N n S).2 = pz S := by
  unfold zStep
  split
  · exact pz_behind
  · exact pz_stmt
theorem pz_go {tp : Nat → Int} {N n : Nat} : ∀ (k : Nat) (S : St), pz (zGo tp N n k S).2 = pz S
  | 0, S => rfl
  | k + 1, S => by
    rw [zGo_s]
    split
    · rw [pz_go k]; exact pz_step
    split
    · exact pz_step
    · exact pz_step
/-! a whole program is read: the reference's side -/
/-- a program and its nodes, below B -/
def PX (M : ZMem) (P : Pg) (σ : Int → Int) (root price : Int) (B : Nat) : Prop :=
  (DI P ∧ (0 ≤ P.2.2.2 ∧ P.2.2.2 ≤ 40) ∧ (0 ≤ P.2.1.2.2.2.1 ∧ P.2.1.2.2.2.1 ≤ 150) ∧ (0 ≤ P.2.1.2.2.2.2 ∧ P.2.1.2.2.2.2 ≤ 150) ∧ (0 ≤ P.2.2.1.2.2.2.1 ∧ P.2.2.1.2.2.2.1 ≤ 150) ∧ (0 ≤ P.2.2.1.2.2.2.2 ∧ P.2.2.1.2.2.2.2 ≤ 150)) ∧ (gHas P 0 ∧ σ 0 = root ∧ gAround P 0 = -1) ∧
  (∀ s, gHas P s → (∃ a b, b ≤ B ∧ Body M P σ a b s) ∧ Lnk M P σ s) ∧
  ((price = -1 ∧ P.2.2.1.2.2.2.2 = 0) ∨ (price ≠ -1 ∧ P.2.2.1.2.2.2.2 ≠ 0 ∧ EqR M P.2.2.1 B 0 price))
theorem PX.keep {M M' : ZMem} {P : Pg} {σ : Int → Int} {root price : Int} {B : Nat} (h : PX M P σ root price B) (hnd : ndB B M M') : PX M' P σ root price B := by
  obtain ⟨h1, h2, h3, h4⟩ := h
  have hr : Gr P P := Gr.refl h1.2.1.1 h1.2.1.2
  refine ⟨h1, h2, fun s hs => ?_, ?_⟩
  · obtain ⟨⟨a, b, hb, hB⟩, hL⟩ := h3 s hs
    have hnb := hB.2.1
    exact ⟨⟨a, b, hb, hB.keep (Kp.nd hnd hb) hr ⟨rfl, fun _ _ => rfl⟩ fun _ _ => rfl⟩, hL.keep hB.1 (hnd 2236 _ (by omega) (by omega) (by omega)) hr Cl.refl fun _ _ => rfl⟩
  · rcases h4 with q | ⟨q1, q2, q3⟩
    · exact Or.inl q
    · exact Or.inr ⟨q1, q2, q3.kp (fun f j f1 f2 f3 => hnd f j f1 (by omega) f3) fun _ _ w => w⟩
theorem EqR.le {M : ZMem} {F : Fm} {b b' : Nat} {f x : Int} (h : EqR M F b f x) (hb : b ≤ b') : EqR M F b' f x := by
  obtain ⟨g, l, k, e1, e2, e3, e4, e5⟩ := h
  exact ⟨g, l, k, e1, e2, (exB_mono hb 0 k e3).1, e4, e5⟩
theorem PX.le {M : ZMem} {P : Pg} {σ : Int → Int} {root price : Int} {B B' : Nat} (h : PX M P σ root price B) (hb : B ≤ B') : PX M P σ root price B' := by
  obtain ⟨h1, h2, h3, h4⟩ := h
  refine ⟨h1, h2, fun s hs => ?_, ?_⟩
  · obtain ⟨⟨a, b, hb, hB⟩, hL⟩ := h3 s hs
    exact ⟨⟨a, b, by omega, hB⟩, hL⟩
  · rcases h4 with q | ⟨q1, q2, q3⟩
    · exact Or.inl q
    · exact Or.inr ⟨q1, q2, q3.le hb⟩
theorem EqR.e {M : ZMem} {F : Fm} {b : Nat} {f x : Int} (h : EqR M F b f x) (hb : b ≤ 70200) (hs : F.2.2.2.1 ≤ 150) : EqE M F 151 f x := by
  obtain ⟨g, l, k, e1, e2, e3, e4, e5⟩ := h
  rw [e1]
  exact EqE_mk e2 hs e3 hb (by omega) e5
theorem PX.pr {M : ZMem} {P : Pg} {σ : Int → Int} {root price : Int} {B : Nat} (h : PX M P σ root price B) (hB : B ≤ 70200) : PR M P σ root price 151 := by
  obtain ⟨⟨⟨d1, d2, d3, d4, d5, d6⟩, h12, h13, h14, h15, h16⟩, h2, h3, h4⟩ := h
  refine ⟨⟨⟨d5.1, d5.2, h13.1, h13.2, h14.1, h14.2⟩, ⟨d6.1, d6.2, h15.1, h15.2, h16.1, h16.2⟩, d2, d3, d4⟩, h2, fun s hs => ?_, ?_⟩
  · obtain ⟨⟨a, b, hb, ⟨_, ⟨b1, b2, b3⟩, b4, b5, hk⟩⟩, hL⟩ := h3 s hs
    have hE : ∀ f x, EqR M P.2.1 b f x → EqE M P.2.1 151 f x := fun f x q => q.e (by omega) h13.2
    refine ⟨⟨by omega, by omega⟩, b4, b5, ?_, ?_⟩
    · rcases hL with q | ⟨q1, q2, q3⟩
      · exact Or.inl q
      · exact Or.inr ⟨q1.1, q2, q3⟩
    · rcases hk with q | q | q | q | q | q | q | q
      · exact Or.inl ⟨q.1, q.2.1, q.2.2.1, q.2.2.2.1, hE _ _ q.2.2.2.2⟩
      · exact Or.inr (Or.inl ⟨q.1, q.2.1, q.2.2.1, hE _ _ q.2.2.2.1, hE _ _ q.2.2.2.2⟩)
      · exact Or.inr (Or.inr (Or.inl ⟨q.1, q.2.1, q.2.2.1, q.2.2.2.1, hE _ _ q.2.2.2.2.1, hE _ _ q.2.2.2.2.2⟩))
      · obtain ⟨q1, q2, q3, q4, q5, q6, q7, q8⟩ := q
        refine Or.inr (Or.inr (Or.inr (Or.inl ⟨q1, q2, q3, q4, q5, q6, fun j hj => ?_, q8⟩)))
        obtain ⟨r1, r2⟩ := q7 j hj
        have := r1.1
        exact ⟨⟨by omega, by omega⟩, hE _ _ r2⟩
      · obtain ⟨q1, q2, q3, q4, q5, q6⟩ := q
        refine Or.inr (Or.inr (Or.inr (Or.inr (Or.inl ⟨q1, q2, q3, q4, q5, fun k hk => ?_⟩))))
        obtain ⟨r1, r2, r3, r4⟩ := q6 k hk
        have := r1.1
        exact ⟨⟨by omega, by omega⟩, r2, r3, r4⟩
      · exact Or.inr (Or.inr (Or.inr (Or.inr (Or.inr (Or.inl q)))))
      · exact Or.inr (Or.inr (Or.inr (Or.inr (Or.inr (Or.inr (Or.inl q))))))
      · exact Or.inr (Or.inr (Or.inr (Or.inr (Or.inr (Or.inr (Or.inr q))))))
  · rcases h4 with q | ⟨q1, q2, q3⟩
    · exact Or.inl q
    · exact Or.inr ⟨q1, q2, q3.e hB h15.2⟩
section RWHOLE
variable {K M : ZMem} {tp : Nat → Int} {n N T : Nat}
theorem SI_0 {O B : Nat → Int} {P : Pg} (hD : DI P) : SI n (zS0 O B P) :=
  ⟨⟨⟨Int.le_refl 0, by show (0 : Int) ≤ 40; decide⟩, pNo_DI hD, ⟨Int.le_refl 0, Int.le_refl 0⟩, ⟨Int.le_refl 0, Int.le_refl 0⟩, Nat.zero_le _, rfl⟩, Nat.zero_le _, fun k hk => absurd hk (Nat.not_lt_zero k)⟩
/-- behind the last part of a whole program -/
theorem go_end {S0 S' : St} (hn150 : n ≤ 150) (h0 : S0.1 = 0) (hr : Reach tp N n S0 S') (hop : S'.2.1 = 0) (hdue : S'.2.2.2.2.1 = 0) (hp : S'.1 ≤ n) (h59 : tp S'.1 ≠ 59) : zGo tp N n 151 S0 = if S'.1 = n then (-1, S') else ((S'.1 : Int), S') := by
  obtain ⟨k', h1, h2⟩ := hr 151 (by omega)
  obtain ⟨k, rfl⟩ : ∃ k, k' = k + 1 := ⟨k' - 1, by omega⟩
  have har : zAr S' = -1 := by unfold zAr; rw [if_neg (by omega)]
  have hk : gKind (zg S') (-1) = -1 := if_neg gHas_n1
  have hzb : zBehind tp n S' = if S'.1 = n then (2, S') else (0, S') := by
    unfold zBehind
    rw [har, hk, if_neg h59, if_neg (fun q => absurd q.2 (by decide)), if_neg (by omega)]
    by_cases c : S'.1 = n
    · rw [if_pos ⟨hop, c⟩, if_pos c]
    · rw [if_neg (fun q => c q.2), if_neg c]
  rw [h2, zGo_s, step_behind hdue, hzb]
  by_cases c : S'.1 = n
  · rw [if_pos c, if_pos c, if_neg (show (2 : Int) ≠ 1 by decide), if_pos rfl]
  · rw [if_neg c, if_neg c, if_neg (show (0 : Int) ≠ 1 by decide), if_neg (show (0 : Int) ≠ 2 by decide)]
theorem PX_of {M' : ZMem} {O B : Nat → Int} {P : Pg} {σ0 σ : Int → Int} {S' : St} {m' : Nat} {M0 : ZMem} (hn150 : n ≤ 150) (h : StP K M0 M tp n N T (zS0 O B P) 0 σ0 M' S' m' σ) (hq : (zg S').2.2.1.2.2.2.1 = 0) (hT : T < 270) : PX M' (zg S') σ (σ 0) (-1) ((T + 1) * 260) := by
  obtain ⟨a1, ⟨a2, a3, a4⟩, a5, a6, ⟨a7, a8, a9⟩, a10, a11, a12, a13, ⟨a14, a15⟩, a16, a17⟩ := h
  obtain ⟨⟨p1, p2, p3, p4, p5, p6⟩, pn, _⟩ := a10
  have a11 : 0 < zsz S' := a11
  have a16 : gAround (zg S') 0 = -1 := a16
  have a4 : m' + 0 ≤ 0 + S'.1 := a4
  refine ⟨⟨p2, p1, ⟨p3.1, by omega⟩, ⟨p4.1, by omega⟩, by rw [hq]; decide, by rw [p6]; decide⟩, ⟨⟨Int.le_refl 0, a11, by decide⟩, rfl, a16⟩, fun s hs => ?_, Or.inl ⟨rfl, p6⟩⟩
  have hs0 := hs.1
  have hs1 : s < zsz S' := hs.2.1
  obtain ⟨⟨a, b, ha, hb, hB⟩, hL⟩ := a14 s hs0 hs1
  exact ⟨⟨a, b, by omega, hB⟩, hL⟩
end RWHOLE
