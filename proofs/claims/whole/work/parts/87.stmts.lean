/-! a program's statements and their nodes, while it is read -/
def Reach (tp : Nat → Int) (N n : Nat) (S S' : St) : Prop := ∀ k, n < S.1 + k → ∃ k', n < S'.1 + k' ∧ zGo tp N n k S = zGo tp N n k' S'
def Fails (tp : Nat → Int) (N n : Nat) (S : St) (g : Nat) : Prop := ∀ k, n < S.1 + k → (zGo tp N n k S).1 = g
theorem Reach.refl {tp : Nat → Int} {N n : Nat} {S : St} : Reach tp N n S S := fun k hk => ⟨k, hk, rfl⟩
theorem Reach.trans {tp : Nat → Int} {N n : Nat} {S S1 S2 : St} (h : Reach tp N n S S1) (g : Reach tp N n S1 S2) : Reach tp N n S S2 := fun k hk => by
  obtain ⟨k1, h1, e1⟩ := h k hk
  obtain ⟨k2, h2, e2⟩ := g k1 h1
  exact ⟨k2, h2, e1.trans e2⟩
theorem Reach.fails {tp : Nat → Int} {N n g : Nat} {S S1 : St} (h : Reach tp N n S S1) (f : Fails tp N n S1 g) : Fails tp N n S g := fun k hk => by
  obtain ⟨k1, h1, e1⟩ := h k hk
  rw [e1]; exact f k1 h1
theorem reach_step {tp : Nat → Int} {N n : Nat} {S : St} (hp : S.1 ≤ n) (h1 : (zStep tp N n S).1 = 1) (h2 : S.1 < (zStep tp N n S).2.1) : Reach tp N n S (zStep tp N n S).2 := fun k hk => by
  obtain ⟨k, rfl⟩ : ∃ j, k = j + 1 := ⟨k - 1, by omega⟩
  exact ⟨k, by omega, by rw [zGo_s, if_pos h1]⟩
theorem fails_step {tp : Nat → Int} {N n : Nat} {S : St} (hp : S.1 ≤ n) (h1 : (zStep tp N n S).1 = 0) : Fails tp N n S (zStep tp N n S).2.1 := fun k hk => by
  obtain ⟨k, rfl⟩ : ∃ j, k = j + 1 := ⟨k - 1, by omega⟩
  rw [zGo_s, if_neg (by omega), if_neg (by omega)]
theorem step_due {tp : Nat → Int} {N n : Nat} {S : St} (h : S.2.2.2.2.1 = 1) : zStep tp N n S = zStmt tp N S := by unfold zStep; rw [if_neg (by omega)]
theorem step_behind {tp : Nat → Int} {N n : Nat} {S : St} (h : S.2.2.2.2.1 = 0) : zStep tp N n S = zBehind tp n S := by unfold zStep; rw [if_pos h]
/-- the draft grew -/
def Gr (P P' : Pg) : Prop := (0 ≤ P.2.2.2 ∧ P.2.2.2 ≤ P'.2.2.2 ∧ P'.2.2.2 ≤ 40) ∧ (∀ j s : Nat, (j = 0 ∨ j = 1 ∨ j = 2 ∨ j = 4 ∨ j = 5) → (s : Int) < P.2.2.2 → P'.1 j s = P.1 j s) ∧ (∀ f l, FE P.2.1 f l → FE P'.2.1 f l) ∧ gForm P' P.2.2.2 = P.2.1.2.2.2.2
def Cl (P P' : Pg) (a b : Int) : Prop := ∀ s : Nat, a ≤ s → (s : Int) < b → P'.1 3 s = P.1 3 s ∧ P'.1 6 s = P.1 6 s ∧ ∀ t, t < 6 → P'.1 7 (s * 6 + t) = P.1 7 (s * 6 + t)
theorem Cl.refl {P : Pg} {a b : Int} : Cl P P a b := fun _ _ _ => ⟨rfl, rfl, fun _ _ => rfl⟩
theorem Cl.trans {P P1 P2 : Pg} {a b : Int} (h : Cl P P1 a b) (g : Cl P1 P2 a b) : Cl P P2 a b := fun s h1 h2 => by
  obtain ⟨x1, x2, x3⟩ := h s h1 h2
  obtain ⟨y1, y2, y3⟩ := g s h1 h2
  exact ⟨y1.trans x1, y2.trans x2, fun t ht => (y3 t ht).trans (x3 t ht)⟩
theorem Cl.sub {P P' : Pg} {a b a' b' : Int} (h : Cl P P' a b) (h1 : a ≤ a') (h2 : b' ≤ b) : Cl P P' a' b' := fun s x y => h s (by omega) (by omega)
theorem Gr.refl {P : Pg} (h0 : 0 ≤ P.2.2.2) (h1 : P.2.2.2 ≤ 40) : Gr P P := ⟨⟨h0, Int.le_refl _, h1⟩, fun _ _ _ _ => rfl, fun _ _ q => q, by unfold gForm; rw [if_neg (fun q => by have := q.2.1; omega)]⟩
theorem Gr.has {P P' : Pg} (h : Gr P P') {s : Int} (g : gHas P s) : gHas P' s := by
  obtain ⟨g1, g2, g3⟩ := g
  have := h.1.2.1
  exact ⟨g1, by omega, g3⟩
theorem Gr.g {P P' : Pg} (h : Gr P P') {s : Int} (g : gHas P s) : gKind P' s = gKind P s ∧ gDetail P' s = gDetail P s ∧ gForm P' s = gForm P s ∧ gAround P' s = gAround P s ∧ gLevel P' s = gLevel P s := by
  have g' := h.has g
  have hs : ((s.toNat : Nat) : Int) < P.2.2.2 := by
    have := g.1; have := g.2.1
    omega
  have e := h.2.1
  unfold gKind gDetail gForm gAround gLevel
  rw [if_pos g, if_pos g', if_pos g, if_pos g', if_pos g, if_pos g', if_pos g, if_pos g', if_pos g, if_pos g']
  exact ⟨e 0 _ (by omega) hs, e 1 _ (by omega) hs, e 2 _ (by omega) hs, e 4 _ (by omega) hs, e 5 _ (by omega) hs⟩
theorem Gr.form1 {P P' : Pg} (h : Gr P P') {s : Int} (g : gHas P s) : gForm P' (s + 1) = gForm P (s + 1) := by
  by_cases c : gHas P (s + 1)
  · exact (h.g c).2.2.1
  · have e : s + 1 = P.2.2.2 := by
      have g1 := g.1; have g2 := g.2.1; have g3 := g.2.2
      unfold gHas at c
      have := h.1.2.1
      have := h.1.2.2
      by_cases q : s + 1 < P.2.2.2
      · exact absurd ⟨by omega, q, by omega⟩ c
      · omega
    rw [e, h.2.2.2]
    unfold gForm
    rw [if_neg (by rw [← e]; exact c)]
theorem Gr.trans {P P1 P2 : Pg} (h : Gr P P1) (g : Gr P1 P2) : Gr P P2 := by
  have h0 := h
  have g0 := g
  obtain ⟨a1, a2, a3, a4⟩ := h
  obtain ⟨b1, b2, b3, b4⟩ := g
  refine ⟨⟨a1.1, by omega, b1.2.2⟩, fun j s hj hs => (b2 j s hj (by omega)).trans (a2 j s hj hs), fun f l hf => b3 f l (a3 f l hf), ?_⟩
  by_cases c : P.2.2.2 < P1.2.2.2
  · have hh : gHas P1 P.2.2.2 := ⟨a1.1, c, by omega⟩
    rw [(g0.g hh).2.2.1, a4]
  · have e : P.2.2.2 = P1.2.2.2 := by omega
    rw [e] at a4 ⊢
    rw [b4]
    have hh : ¬ gHas P1 P1.2.2.2 := fun q => by have := q.2.1; omega
    unfold gForm at a4
    rw [if_neg hh] at a4
    exact a4
def EqR (M : ZMem) (F : Fm) (b : Nat) (f x : Int) : Prop := ∃ (g : Nat) (l : FL) (k : Nat), f = g ∧ FE F g l ∧ exB M b k x ∧ k ≤ 150 ∧ ∀ vals, (∀ k, isV (vals k)) → evN M vals k x = lval vals l
/-- a part's node -/
def PN (M : ZMem) (a b : Nat) (x : Int) : Prop := ((a : Int) ≤ x ∧ x < b) ∧ mI M 2232 x.toNat = 12
def Kds (M : ZMem) (P : Pg) (σ : Int → Int) (a b : Nat) (s : Int) : Prop :=
  (gKind P s = 1 ∧ mI M 2232 (σ s).toNat = 7 ∧ mI M 2233 (σ s).toNat = gDetail P s ∧ (0 ≤ gDetail P s ∧ gDetail P s < 8) ∧ EqR M P.2.1 b (gForm P s) (mI M 2234 (σ s).toNat)) ∨
  (gKind P s = 2 ∧ mI M 2232 (σ s).toNat = 10 ∧ mI M 2235 (σ s).toNat = gDetail P s ∧ EqR M P.2.1 b (gForm P s) (mI M 2233 (σ s).toNat) ∧ EqR M P.2.1 b (gForm P s + 1) (mI M 2234 (σ s).toNat)) ∨
  (gKind P s = 3 ∧ mI M 2232 (σ s).toNat = 8 ∧ mI M 2233 (σ s).toNat = gDetail P s ∧ (0 ≤ gDetail P s ∧ gDetail P s < 8) ∧ EqR M P.2.1 b (gForm P s) (mI M 2234 (σ s).toNat) ∧ EqR M P.2.1 b (gForm P s + 1) (mI M 2235 (σ s).toNat)) ∨
  (gKind P s = 4 ∧ mI M 2232 (σ s).toNat = 9 ∧ mI M 2233 (σ s).toNat = gDetail P s ∧ (0 ≤ gDetail P s ∧ gDetail P s < 8) ∧ mI M 2235 (σ s).toNat = gForm P (s + 1) - gForm P s ∧ (1 ≤ mI M 2235 (σ s).toNat ∧ mI M 2235 (σ s).toNat ≤ 6) ∧ (∀ j : Nat, (j : Int) < mI M 2235 (σ s).toNat → PN M a b (pk M (mI M 2234 (σ s).toNat) j) ∧ EqR M P.2.1 b (gForm P s + j) (mI M 2233 (pk M (mI M 2234 (σ s).toNat) j).toNat)) ∧ pk M (mI M 2234 (σ s).toNat) (mI M 2235 (σ s).toNat).toNat = -1) ∨
  (gKind P s = 5 ∧ mI M 2232 (σ s).toNat = 11 ∧ mI M 2234 (σ s).toNat = gParts P s ∧ (1 ≤ gParts P s ∧ gParts P s ≤ 6) ∧ gLevel P s ≤ 5 ∧ ∀ k : Nat, (k : Int) < gParts P s → PN M a b (pk M (mI M 2233 (σ s).toNat) k) ∧ gHas P (gPartFirst P s k) ∧ gAround P (gPartFirst P s k) = s ∧ mI M 2233 (pk M (mI M 2233 (σ s).toNat) k).toNat = σ (gPartFirst P s k)) ∨
  ((gKind P s = 6 ∧ mI M 2232 (σ s).toNat = 13 ∨ gKind P s = 7 ∧ mI M 2232 (σ s).toNat = 14) ∧ (0 ≤ gDetail P s ∧ gDetail P s ≤ 9) ∧ gLevel P s ≤ 5 ∧ gHas P (gPartFirst P s 0) ∧ gAround P (gPartFirst P s 0) = s ∧ mI M 2233 (σ s).toNat = σ (gPartFirst P s 0)) ∨
  (gKind P s = 8 ∧ mI M 2232 (σ s).toNat = 15) ∨
  (gKind P s = 9 ∧ mI M 2232 (σ s).toNat = 16 ∧ mI M 2233 (σ s).toNat = gDetail P s ∧ (1 ≤ gDetail P s ∧ gDetail P s ≤ 9) ∧ gLevel P s ≤ 5 ∧ gHas P (gPartFirst P s 0) ∧ gAround P (gPartFirst P s 0) = s ∧ mI M 2234 (σ s).toNat = σ (gPartFirst P s 0))
def Body (M : ZMem) (P : Pg) (σ : Int → Int) (a b : Nat) (s : Int) : Prop := gHas P s ∧ ((a : Int) ≤ σ s ∧ σ s < b ∧ b ≤ 70200) ∧ gLevel P s = lvI P (gAround P s) ∧ (gAround P s = -1 ∨ gHas P (gAround P s)) ∧ Kds M P σ a b s
def Lnk (M : ZMem) (P : Pg) (σ : Int → Int) (s : Int) : Prop := (gBehind P s = -1 ∧ mI M 2236 (σ s).toNat = -1) ∨ ((gHas P (gBehind P s) ∧ s < gBehind P s) ∧ gAround P (gBehind P s) = gAround P s ∧ mI M 2236 (σ s).toNat = σ (gBehind P s))
/-- what the nodes of a statement keep -/
def Kp (a b : Nat) (M M' : ZMem) : Prop := (∀ f j, 2232 ≤ f → f ≤ 2235 → j < b → mI M' f j = mI M f j) ∧ ∀ j, a ≤ j → j < b → mI M 2232 j = 12 → mI M' 2236 j = mI M 2236 j
theorem Kp.nd {a b b' : Nat} {M M' : ZMem} (h : ndB b' M M') (hb : b ≤ b') : Kp a b M M' := ⟨fun f j h1 h2 h3 => h f j h1 (by omega) (by omega), fun j _ h2 _ => h 2236 j (by omega) (by omega) (by omega)⟩
theorem Kp.next {a b o : Nat} {M : ZMem} {x : Int} (h : mI M 2232 o ≠ 12 ∨ o < a ∨ b ≤ o) : Kp a b M (sI M 2236 o x) := by
  refine ⟨fun f j h1 h2 h3 => by rw [mI_sI, if_neg (by omega)], fun j h1 h2 h3 => ?_⟩
  rw [mI_sI, if_neg]
  rintro ⟨_, rfl⟩
  rcases h with c | c
  · exact c h3
  · omega
theorem Kp.sc {a b k : Nat} {M M' : ZMem} {x : Int} (h : Kp a b M M') : Kp a b M (sI M' 2230 k x) := ⟨fun f j h1 h2 h3 => by rw [mI_sI, if_neg (by omega)]; exact h.1 f j h1 h2 h3, fun j h1 h2 h3 => by rw [mI_sI, if_neg (by omega)]; exact h.2 j h1 h2 h3⟩
theorem Kp.trans {a b : Nat} {M M1 M2 : ZMem} (h : Kp a b M M1) (g : Kp a b M1 M2) : Kp a b M M2 := ⟨fun f j h1 h2 h3 => (g.1 f j h1 h2 h3).trans (h.1 f j h1 h2 h3), fun j h1 h2 h3 => (g.2 j h1 h2 (by rw [h.1 2232 j (by omega) (by omega) h2]; exact h3)).trans (h.2 j h1 h2 h3)⟩
theorem exB_kp {M M' : ZMem} {b : Nat} (h : ∀ f j, 2232 ≤ f → f ≤ 2235 → j < b → mI M' f j = mI M f j) : ∀ (k : Nat) (x : Int), exB M b k x → exB M' b k x ∧ ∀ vals, evN M' vals k x = evN M vals k x
  | 0, _, g => g.elim
  | k + 1, x, g => by
    have ih := exB_kp h k
    obtain ⟨h1, h2, h3⟩ := g
    have e2 := h 2232 x.toNat (by omega) (by omega) (by omega)
    have e3 := h 2233 x.toNat (by omega) (by omega) (by omega)
    have e4 := h 2234 x.toNat (by omega) (by omega) (by omega)
    constructor
    · rw [exB, e2, e3, e4]
      exact ⟨h1, h2, fun c1 c2 => ⟨(ih _ (h3 c1 c2).1).1, fun c3 => (ih _ ((h3 c1 c2).2 c3)).1⟩⟩
    · intro vals
      rw [evN_s (M := M'), evN_s (M := M), e2, e3, e4]
      by_cases c1 : mI M 2232 x.toNat = 1
      · rw [if_pos c1, if_pos c1]
      · rw [if_neg c1, if_neg c1]
        by_cases c2 : mI M 2232 x.toNat = 2
        · rw [if_pos c2, if_pos c2]
        · rw [if_neg c2, if_neg c2, (ih _ (h3 c1 c2).1).2 vals]
          by_cases c6 : mI M 2232 x.toNat = 6
          · rw [if_pos c6, if_pos c6]
          · rw [if_neg c6, if_neg c6, (ih _ ((h3 c1 c2).2 c6)).2 vals]
theorem EqR.kp {M M' : ZMem} {F F' : Fm} {b : Nat} {f x : Int} (h : ∀ f j, 2232 ≤ f → f ≤ 2235 → j < b → mI M' f j = mI M f j) (hF : ∀ f l, FE F f l → FE F' f l) (g : EqR M F b f x) : EqR M' F' b f x := by
  obtain ⟨u, l, k, h1, h2, h3, h4, h5⟩ := g
  obtain ⟨e1, e2⟩ := exB_kp h k x h3
  exact ⟨u, l, k, h1, hF _ _ h2, e1, h4, fun vals hv => (e2 vals).trans (h5 vals hv)⟩
theorem pk_kp {M M' : ZMem} {a b : Nat} (h : Kp a b M M') {x : Int} : ∀ j : Nat, (∀ i, i < j → PN M a b (pk M x i)) → pk M' x j = pk M x j
  | 0, _ => rfl
  | j + 1, hh => by
    obtain ⟨⟨p1, p2⟩, p3⟩ := hh j (by omega)
    show mI M' 2236 (pk M' x j).toNat = mI M 2236 (pk M x j).toNat
    rw [pk_kp h j (fun i hi => hh i (by omega))]
    exact h.2 _ (by omega) (by omega) p3
theorem PN.kp {M M' : ZMem} {a b : Nat} (h : Kp a b M M') {x : Int} (g : PN M a b x) : PN M' a b x := by
  refine ⟨g.1, ?_⟩
  have := g.1
  rw [h.1 2232 _ (by omega) (by omega) (by omega)]
  exact g.2
theorem lvI_gr {P P' : Pg} (h : Gr P P') {c : Int} (hc : c = -1 ∨ gHas P c) : lvI P' c = lvI P c := by
  unfold lvI
  rcases hc with q | q
  · rw [if_pos q, if_pos q]
  · rw [(h.g q).2.2.2.2]
/-- a statement that was read stays one -/
def C67 (P P' : Pg) (s : Int) : Prop := P'.1 6 s.toNat = P.1 6 s.toNat ∧ ∀ t, t < 6 → P'.1 7 (s.toNat * 6 + t) = P.1 7 (s.toNat * 6 + t)
theorem Body.keep {M M' : ZMem} {P P' : Pg} {σ σ' : Int → Int} {a b : Nat} {s : Int} (hM : Kp a b M M') (hP : Gr P P') (hC : C67 P P' s) (hσ : ∀ i, gHas P i → σ' i = σ i) (h : Body M P σ a b s) : Body M' P' σ' a b s := by
  obtain ⟨hs, ⟨h1, h2, h2'⟩, h3, h4, hk⟩ := h
  have hs' := hP.has hs
  obtain ⟨e1, e2, e3, e4, e5⟩ := hP.g hs
  have eσ := hσ s hs
  have ef1 := hP.form1 hs
  have hs0 := hs.1
  have hs40 := hs.2.2
  obtain ⟨c6, c7⟩ := hC
  have eparts : gParts P' s = gParts P s := by
    unfold gParts
    rw [if_pos hs, if_pos hs']; exact c6
  have epf : ∀ k : Nat, gPartFirst P' s k = gPartFirst P s k := fun k => by
    unfold gPartFirst
    by_cases ck : k < 6
    · rw [if_pos ⟨hs', by omega, by omega⟩, if_pos ⟨hs, by omega, by omega⟩]
      have := c7 k ck
      rw [show (s * 6 + (k : Int)).toNat = s.toNat * 6 + k by omega]
      exact this
    · rw [if_neg (by omega), if_neg (by omega)]
  have n2 := hM.1 2232 (σ s).toNat (by omega) (by omega) (by omega)
  have n3 := hM.1 2233 (σ s).toNat (by omega) (by omega) (by omega)
  have n4 := hM.1 2234 (σ s).toNat (by omega) (by omega) (by omega)
  have n5 := hM.1 2235 (σ s).toNat (by omega) (by omega) (by omega)
  have eq : ∀ f x, EqR M P.2.1 b f x → EqR M' P'.2.1 b f x := fun f x g => g.kp hM.1 hP.2.2.1
  refine ⟨hs', by rw [eσ]; exact ⟨h1, h2, h2'⟩, by rw [e5, e4, lvI_gr hP h4]; exact h3, ?_, ?_⟩
  · rw [e4]
    rcases h4 with q | q
    · exact Or.inl q
    · exact Or.inr (hP.has q)
  · unfold Kds at hk ⊢
    rw [e1, e2, e3, ef1, e5, eparts, eσ, n2, n3, n4, n5]
    rcases hk with q | q | q | q | q | q | q | q
    · exact Or.inl ⟨q.1, q.2.1, q.2.2.1, q.2.2.2.1, eq _ _ q.2.2.2.2⟩
    · exact Or.inr (Or.inl ⟨q.1, q.2.1, q.2.2.1, eq _ _ q.2.2.2.1, eq _ _ q.2.2.2.2⟩)
    · exact Or.inr (Or.inr (Or.inl ⟨q.1, q.2.1, q.2.2.1, q.2.2.2.1, eq _ _ q.2.2.2.2.1, eq _ _ q.2.2.2.2.2⟩))
    · obtain ⟨q1, q2, q3, q4, q5, q6, q7, q8⟩ := q
      have ep : ∀ j : Nat, (j : Int) ≤ mI M 2235 (σ s).toNat → pk M' (mI M 2234 (σ s).toNat) j = pk M (mI M 2234 (σ s).toNat) j := fun j hj => pk_kp hM j fun i hi => (q7 i (by omega)).1
      refine Or.inr (Or.inr (Or.inr (Or.inl ⟨q1, q2, q3, q4, q5, q6, fun j hj => ?_, by rw [ep _ (by omega)]; exact q8⟩)))
      obtain ⟨r1, r2⟩ := q7 j hj
      rw [ep j (by omega)]
      have := r1.1
      rw [hM.1 2233 _ (by omega) (by omega) (by omega)]
      exact ⟨r1.kp hM, eq _ _ r2⟩
    · obtain ⟨q1, q2, q3, q4, q5, q6⟩ := q
      have ep : ∀ j : Nat, (j : Int) < gParts P s → pk M' (mI M 2233 (σ s).toNat) j = pk M (mI M 2233 (σ s).toNat) j := fun j hj => pk_kp hM j fun i hi => (q6 i (by omega)).1
      refine Or.inr (Or.inr (Or.inr (Or.inr (Or.inl ⟨q1, q2, q3, q4, q5, fun k hk => ?_⟩))))
      obtain ⟨r1, r2, r3, r4⟩ := q6 k hk
      rw [ep k hk, epf]
      have := r1.1
      rw [hM.1 2233 _ (by omega) (by omega) (by omega), hσ _ r2, (hP.g r2).2.2.2.1]
      exact ⟨r1.kp hM, hP.has r2, r3, r4⟩
    · obtain ⟨q1, q2, q3, q4, q5, q6⟩ := q
      have ep0 : gPartFirst P' s 0 = gPartFirst P s 0 := epf 0
      rw [ep0, hσ _ q4, (hP.g q4).2.2.2.1]
      exact Or.inr (Or.inr (Or.inr (Or.inr (Or.inr (Or.inl ⟨q1, q2, q3, hP.has q4, q5, q6⟩)))))
    · exact Or.inr (Or.inr (Or.inr (Or.inr (Or.inr (Or.inr (Or.inl q))))))
    · obtain ⟨q1, q2, q3, q4, q5, q6, q7, q8⟩ := q
      have ep0 : gPartFirst P' s 0 = gPartFirst P s 0 := epf 0
      rw [ep0, hσ _ q6, (hP.g q6).2.2.2.1]
      exact Or.inr (Or.inr (Or.inr (Or.inr (Or.inr (Or.inr (Or.inr ⟨q1, q2, q3, q4, q5, hP.has q6, q7, q8⟩))))))
theorem Lnk.keep {M M' : ZMem} {P P' : Pg} {σ σ' : Int → Int} {s : Int} (hs : gHas P s) (hM : mI M' 2236 (σ s).toNat = mI M 2236 (σ s).toNat) (hP : Gr P P') (hC : Cl P P' s (s + 1)) (hσ : ∀ i, gHas P i → σ' i = σ i) (h : Lnk M P σ s) : Lnk M' P' σ' s := by
  have hs' := hP.has hs
  have hs0 := hs.1
  obtain ⟨c3, _, _⟩ := hC s.toNat (by omega) (by omega)
  have eb : gBehind P' s = gBehind P s := by
    unfold gBehind
    rw [if_pos hs, if_pos hs']; exact c3
  unfold Lnk at h ⊢
  rw [eb, hσ s hs, hM, (hP.g hs).2.2.2.1]
  rcases h with q | ⟨q1, q2, q3⟩
  · exact Or.inl q
  · exact Or.inr ⟨⟨hP.has q1.1, q1.2⟩, by rw [(hP.g q1.1).2.2.2.1]; exact q2, by rw [hσ _ q1.1]; exact q3⟩
theorem Body.op {M : ZMem} {P : Pg} {σ : Int → Int} {a b : Nat} {s : Int} (h : Body M P σ a b s) : mI M 2232 (σ s).toNat ≠ 12 := by
  rcases h.2.2.2.2 with q | q | q | q | q | q | q | q
  · rw [q.2.1]; decide
  · rw [q.2.1]; decide
  · rw [q.2.1]; decide
  · rw [q.2.1]; decide
  · rw [q.2.1]; decide
  · rcases q.1 with r | r
    · rw [r.2]; decide
    · rw [r.2]; decide
  · rw [q.2]; decide
  · rw [q.2.1]; decide
