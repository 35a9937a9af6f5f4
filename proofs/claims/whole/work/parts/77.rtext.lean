/-! the reference reads: its small methods -/
/-- the reference's memory while it reads: place p, fault f, brackets op, told td, nodes m of text T -/
def NM (K M0 M : ZMem) (tp : Nat → Int) (n T p : Nat) (f op td : Int) (m : Nat) : Prop :=
  KW K M ∧ (mI M 2230 1 = n ∧ ∀ k, k < n → mI M 2231 k = tp k) ∧ (mI M 2230 2 = p ∧ mI M 2230 3 = f ∧ mI M 2230 4 = op ∧ mI M 2230 5 = td ∧ mI M 2230 6 = T ∧ mI M 2230 7 = m) ∧ Fr (fun q => q = 2230 ∨ (2232 ≤ q ∧ q ≤ 2236)) M0 M ∧ (∀ k, (k < 2 ∨ k = 6 ∨ 8 ≤ k) → mI M 2230 k = mI M0 2230 k) ∧ p ≤ n
/-- nodes below b are as they were -/
def ndB (b : Nat) (M M' : ZMem) : Prop := ∀ a j, 2232 ≤ a → a ≤ 2236 → j < b → mI M' a j = mI M a j
theorem ndB.refl {b : Nat} {M : ZMem} : ndB b M M := fun _ _ _ _ _ => rfl
theorem ndB.trans {b b' : Nat} {M M1 M2 : ZMem} (h : ndB b M M1) (g : ndB b' M1 M2) (hb : b ≤ b') : ndB b M M2 := fun a j h1 h2 h3 => (g a j h1 h2 (by omega)).trans (h a j h1 h2 h3)
theorem ndB.sc {b k : Nat} {M M1 : ZMem} {x : Int} (h : ndB b M M1) : ndB b M (sI M1 2230 k x) := fun a j h1 h2 h3 => by
  rw [mI_sI, if_neg (by omega)]; exact h a j h1 h2 h3
theorem ndB.le {b b' : Nat} {M M' : ZMem} (h : ndB b M M') (hb : b' ≤ b) : ndB b' M M' := fun a j h1 h2 h3 => h a j h1 h2 (by omega)
section RTEXT
variable {d : Nat} {K M0 M M' : ZMem} {tp : Nat → Int} {n T p m : Nat} {f op td : Int}
theorem NM.sc (h : NM K M0 M tp n T p f op td m) {k : Nat} {x : Int} (hk : k ≠ 1) (h6 : k ≠ 6) (h2 : 2 ≤ k) (h8 : k < 8) {p' m' : Nat} {f' op' td' : Int} (e2 : (p' : Int) = if k = 2 then x else p) (e3 : f' = if k = 3 then x else f) (e4 : op' = if k = 4 then x else op) (e5 : td' = if k = 5 then x else td) (e7 : (m' : Int) = if k = 7 then x else m) (hp' : p' ≤ n) : NM K M0 (sI M 2230 k x) tp n T p' f' op' td' m' := by
  obtain ⟨a, ⟨b1, b2⟩, ⟨c2, c3, c4, c5, c6, c7⟩, e, g, hp⟩ := h
  refine ⟨a.sI _ _ _, ⟨?_, fun j hj => ?_⟩, ⟨?_, ?_, ?_, ?_, ?_, ?_⟩, e.sI (Or.inl rfl), fun j hj => ?_, hp'⟩
  · rw [mI_sI, if_neg (by omega)]; exact b1
  · rw [mI_sI, if_neg (by omega)]; exact b2 j hj
  · rw [mI_sI, e2]; by_cases q : k = 2
    · rw [if_pos ⟨rfl, q.symm⟩, if_pos q]
    · rw [if_neg (fun w => q w.2.symm), if_neg q]; exact c2
  · rw [mI_sI, e3]; by_cases q : k = 3
    · rw [if_pos ⟨rfl, q.symm⟩, if_pos q]
    · rw [if_neg (fun w => q w.2.symm), if_neg q]; exact c3
  · rw [mI_sI, e4]; by_cases q : k = 4
    · rw [if_pos ⟨rfl, q.symm⟩, if_pos q]
    · rw [if_neg (fun w => q w.2.symm), if_neg q]; exact c4
  · rw [mI_sI, e5]; by_cases q : k = 5
    · rw [if_pos ⟨rfl, q.symm⟩, if_pos q]
    · rw [if_neg (fun w => q w.2.symm), if_neg q]; exact c5
  · rw [mI_sI, if_neg (by omega)]; exact c6
  · rw [mI_sI, e7]; by_cases q : k = 7
    · rw [if_pos ⟨rfl, q.symm⟩, if_pos q]
    · rw [if_neg (fun w => q w.2.symm), if_neg q]; exact c7
  · rw [mI_sI, if_neg (by omega)]; exact g j hj
theorem NM.at' (h : NM K M0 M tp n T p f op td m) {x : Int} {p' : Nat} (e : (p' : Int) = x) (hp : p' ≤ n) : NM K M0 (sI M 2230 2 x) tp n T p' f op td m :=
  h.sc (by decide) (by decide) (by decide) (by decide) (e.trans (if_pos rfl).symm) (if_neg (by decide)).symm (if_neg (by decide)).symm (if_neg (by decide)).symm (if_neg (by decide)).symm hp
theorem NM.fault (h : NM K M0 M tp n T p f op td m) {x : Int} : NM K M0 (sI M 2230 3 x) tp n T p x op td m :=
  h.sc (by decide) (by decide) (by decide) (by decide) (if_neg (by decide)).symm (if_pos rfl).symm (if_neg (by decide)).symm (if_neg (by decide)).symm (if_neg (by decide)).symm h.2.2.2.2.2
theorem NM.ops (h : NM K M0 M tp n T p f op td m) {x : Int} : NM K M0 (sI M 2230 4 x) tp n T p f x td m :=
  h.sc (by decide) (by decide) (by decide) (by decide) (if_neg (by decide)).symm (if_neg (by decide)).symm (if_pos rfl).symm (if_neg (by decide)).symm (if_neg (by decide)).symm h.2.2.2.2.2
theorem NM.tds (h : NM K M0 M tp n T p f op td m) {x : Int} : NM K M0 (sI M 2230 5 x) tp n T p f op x m :=
  h.sc (by decide) (by decide) (by decide) (by decide) (if_neg (by decide)).symm (if_neg (by decide)).symm (if_neg (by decide)).symm (if_pos rfl).symm (if_neg (by decide)).symm h.2.2.2.2.2
theorem NM.cnt (h : NM K M0 M tp n T p f op td m) {x : Int} {m' : Nat} (e : (m' : Int) = x) : NM K M0 (sI M 2230 7 x) tp n T p f op td m' :=
  h.sc (by decide) (by decide) (by decide) (by decide) (if_neg (by decide)).symm (if_neg (by decide)).symm (if_neg (by decide)).symm (if_neg (by decide)).symm (e.trans (if_pos rfl).symm) h.2.2.2.2.2
theorem NM.node (h : NM K M0 M tp n T p f op td m) {a j : Nat} {x : Int} (h1 : 2232 ≤ a) (h2 : a ≤ 2236) : NM K M0 (sI M a j x) tp n T p f op td m := by
  obtain ⟨a', ⟨b1, b2⟩, ⟨c2, c3, c4, c5, c6, c7⟩, e, g, hp⟩ := h
  have r : ∀ k, mI (sI M a j x) 2230 k = mI M 2230 k := fun k => by rw [mI_sI, if_neg (by omega)]
  refine ⟨a'.sI _ _ _, ⟨by rw [r]; exact b1, fun k hk => by rw [mI_sI, if_neg (by omega)]; exact b2 k hk⟩, ⟨by rw [r]; exact c2, by rw [r]; exact c3, by rw [r]; exact c4, by rw [r]; exact c5, by rw [r]; exact c6, by rw [r]; exact c7⟩, e.sI (Or.inr ⟨h1, h2⟩), fun k hk => by rw [r]; exact g k hk, hp⟩
theorem n_byteAt (hT : Tp tp n) (h : NM K M0 M tp n T p f op td m) (hM : ModelAt K 2230) {x : Int} {k : Nat} {Q : Int → ZMem → Prop} (hx : x = k) (q : Q (tp k) M) : Ci d q10_byteAt [zr 2230, zi x] M Q := by
  obtain ⟨a, ⟨b1, b2⟩, _⟩ := h
  have hn := hT.1
  refine B10_byteAt x a hM ⟨fun c => ?_, fun c => ⟨by omega, by omega, ?_⟩⟩
  · rw [b1] at c
    rw [hT.2.2 k (by omega)] at q
    exact q
  · rw [b1] at c
    rw [hx, Int.toNat_natCast, b2 k (by omega)]
    exact q
theorem n_peek (hT : Tp tp n) (h : NM K M0 M tp n T p f op td m) (hM : ModelAt K 2230) {Q : Int → ZMem → Prop} (hd : 1 ≤ d) (q : Q (tp p) M) : Ci d q10_peek [zr 2230] M Q := by
  obtain ⟨d, rfl⟩ : ∃ e, d = e + 1 := ⟨d - 1, by omega⟩
  exact B10_peek h.1 hM (n_byteAt hT h hM h.2.2.1.1 ⟨h.1, q⟩)
theorem n_wrong (h : NM K M0 M tp n T p f op td m) (hM : ModelAt K 2230) {x : Int} {Q : ZMem → Prop} (q : ∀ M', NM K M0 M' tp n T p (if 0 ≤ f then f else x) op td m → ndB (T * 260 + m) M M' → Q M') : Cv d q10_wrong [zr 2230, zi x] M Q := by
  have e3 := h.2.2.1.2.1
  refine B10_wrong x h.1 hM ⟨fun c => ?_, fun c => ?_⟩
  · rw [e3] at c ⊢
    rw [if_pos c] at q
    exact q _ h.fault ndB.refl.sc
  · rw [e3] at c
    rw [if_neg c] at q
    exact q _ h.fault ndB.refl.sc
/-- a byte is taken, if it stands there -/
theorem n_takes (hT : Tp tp n) (h : NM K M0 M tp n T p f op td m) (hM : ModelAt K 2230) {x : Int} {Q : Int → ZMem → Prop} (hd : 2 ≤ d) (hx : 1 ≤ x) (q0 : 0 ≤ f → Q 0 M) (q1 : ¬ 0 ≤ f → tp p ≠ x → Q 0 M) (q2 : ¬ 0 ≤ f → tp p = x → p < n → ∀ M', NM K M0 M' tp n T (p + 1) f op td m → ndB (T * 260 + m) M M' → Q 1 M') : Ci d q10_takes [zr 2230, zi x] M Q := by
  obtain ⟨d, rfl⟩ : ∃ e, d = e + 1 := ⟨d - 1, by omega⟩
  have e3 := h.2.2.1.2.1
  have e2 := h.2.2.1.1
  have hn := hT.1
  have hp := h.2.2.2.2.2
  refine B10_takes x h.1 hM ⟨fun c => q0 (by rw [← e3]; exact c), fun c => n_peek hT h hM (by omega) ⟨h.1, fun c2 => ?_, fun c2 => q1 (by rw [← e3]; exact c) c2⟩⟩
  have hin := hT.in (p := p) (by omega)
  refine ⟨⟨by omega, by omega⟩, q2 (by rw [← e3]; exact c) c2 hin _ (h.at' (by omega) (by omega)) ndB.refl.sc⟩
theorem n_wants (hT : Tp tp n) (h : NM K M0 M tp n T p f op td m) (hM : ModelAt K 2230) {x : Int} {Q : ZMem → Prop} (hd : 3 ≤ d) (hx : 1 ≤ x) (q0 : 0 ≤ f → ∀ M', NM K M0 M' tp n T p f op td m → ndB (T * 260 + m) M M' → Q M') (q1 : ¬ 0 ≤ f → tp p ≠ x → ∀ M', NM K M0 M' tp n T p p op td m → ndB (T * 260 + m) M M' → Q M') (q2 : ¬ 0 ≤ f → tp p = x → p < n → ∀ M', NM K M0 M' tp n T (p + 1) f op td m → ndB (T * 260 + m) M M' → Q M') : Cv d q10_wants [zr 2230, zi x] M Q := by
  obtain ⟨d, rfl⟩ : ∃ e, d = e + 1 := ⟨d - 1, by omega⟩
  have e2 := h.2.2.1.1
  refine B10_wants x h.1 hM (n_takes hT h hM (by omega) hx (fun c => ⟨h.1, fun c2 => absurd rfl c2, fun _ => n_wrong h hM fun M' a g => ⟨a.1, ?_⟩⟩) (fun c c1 => ⟨h.1, fun c2 => absurd rfl c2, fun _ => n_wrong h hM fun M' a g => ⟨a.1, ?_⟩⟩) (fun c c1 hin M' a g => ⟨a.1, fun _ => q2 c c1 hin M' a g, fun c2 => absurd (by decide) c2⟩))
  · rw [if_pos c] at a
    exact q0 c M' a g
  · rw [if_neg c, e2] at a
    exact q1 c c1 M' a g
theorem n_isName (hT : Tp tp n) (h : NM K M0 M tp n T p f op td m) (hM : ModelAt K 2230) {Q : Int → ZMem → Prop} (hd : 2 ≤ d) (q1 : 97 ≤ tp p ∧ tp p ≤ 104 → Q 1 M) (q0 : ¬ (97 ≤ tp p ∧ tp p ≤ 104) → Q 0 M) : Ci d q10_isName [zr 2230] M Q := by
  obtain ⟨d, rfl⟩ : ∃ e, d = e + 1 := ⟨d - 1, by omega⟩
  exact B10_isName h.1 hM (n_peek hT h hM (by omega) ⟨h.1, q1, q0⟩)
/-- what stands in a node -/
def nds (M : ZMem) (x : Nat) (a b c e : Int) : Prop := mI M 2232 x = a ∧ mI M 2233 x = b ∧ mI M 2234 x = c ∧ mI M 2235 x = e ∧ mI M 2236 x = -1
theorem n_writes (h : NM K M0 M tp n T p f op td m) (hM : ModelAt K 2230) {a b c e : Int} {Q : Int → ZMem → Prop} (hT : T < 270) (hm : ¬ 0 ≤ f → m < 260) (q0 : 0 ≤ f → Q ((T * 260 : Nat) : Int) M) (q1 : ¬ 0 ≤ f → ∀ M', NM K M0 M' tp n T p f op td (m + 1) → ndB (T * 260 + m) M M' → nds M' (T * 260 + m) a b c e → Q ((T * 260 + m : Nat) : Int) M') : Ci d q10_writes [zr 2230, zi a, zi b, zi c, zi e] M Q := by
  obtain ⟨e2, e3, e4, e5, e6, e7⟩ := h.2.2.1
  refine B10_writes a b c e h.1 hM ⟨fun cf => ?_, fun cf => ?_⟩
  · rw [e3] at cf
    have hm := hm (by omega)
    have ex : mI M 2230 6 * 260 + mI M 2230 7 = ((T * 260 + m : Nat) : Int) := by rw [e6, e7]; omega
    rw [ex, e6]
    generalize hB : T * 260 + m = B at *
    have hb : B < 70200 := by omega
    rw [Int.toNat_natCast]
    have e7' : mI (sI (sI (sI (sI (sI M 2232 B a) 2233 B b) 2234 B c) 2235 B e) 2236 B (-1)) 2230 7 = m := by
      rw [mI_sI, if_neg (by omega), mI_sI, if_neg (by omega), mI_sI, if_neg (by omega), mI_sI, if_neg (by omega), mI_sI, if_neg (by omega)]
      exact e7
    rw [e7']
    refine ⟨⟨by omega, by omega⟩, ⟨by omega, by omega⟩, by omega, by omega, by omega, by omega, by omega, by omega, by omega, by omega, by omega, by omega, ⟨by omega, by omega⟩, ?_⟩
    refine q1 (by omega) _ (((((((h.node (by omega) (by omega)).node (by omega) (by omega)).node (by omega) (by omega)).node (by omega) (by omega)).node (by omega) (by omega))).cnt (by omega)) (fun a' j h1 h2 h3 => ?_) ⟨?_, ?_, ?_, ?_, ?_⟩
    · rw [mI_sI, if_neg (by omega), mI_sI, if_neg (by omega), mI_sI, if_neg (by omega), mI_sI, if_neg (by omega), mI_sI, if_neg (by omega), mI_sI, if_neg (by omega)]
    · rw [mI_sI, if_neg (by omega), mI_sI, if_neg (by omega), mI_sI, if_neg (by omega), mI_sI, if_neg (by omega), mI_sI, if_neg (by omega), mI_sI, if_pos ⟨rfl, rfl⟩]
    · rw [mI_sI, if_neg (by omega), mI_sI, if_neg (by omega), mI_sI, if_neg (by omega), mI_sI, if_neg (by omega), mI_sI, if_pos ⟨rfl, rfl⟩]
    · rw [mI_sI, if_neg (by omega), mI_sI, if_neg (by omega), mI_sI, if_neg (by omega), mI_sI, if_pos ⟨rfl, rfl⟩]
    · rw [mI_sI, if_neg (by omega), mI_sI, if_neg (by omega), mI_sI, if_pos ⟨rfl, rfl⟩]
    · rw [mI_sI, if_neg (by omega), mI_sI, if_pos ⟨rfl, rfl⟩]
  · rw [e3] at cf
    rw [e6]
    refine ⟨⟨by omega, by omega⟩, ?_⟩
    have := q0 (by omega)
    rw [show (T : Int) * 260 = ((T * 260 : Nat) : Int) by omega]
    exact this
/-- nodes of an E below a bound -/
def exB (M : ZMem) (b : Nat) : Nat → Int → Prop
  | 0, _ => False
  | k + 1, x => (0 ≤ x ∧ x < b) ∧
    ((mI M 2232 x.toNat = 2 → 0 ≤ mI M 2233 x.toNat ∧ mI M 2233 x.toNat < 8) ∧
    (mI M 2232 x.toNat ≠ 1 → mI M 2232 x.toNat ≠ 2 → exB M b k (mI M 2233 x.toNat) ∧ (mI M 2232 x.toNat ≠ 6 → exB M b k (mI M 2234 x.toNat))))
theorem exB_ex {b : Nat} (hb : b ≤ 70200) : ∀ (k : Nat) (x : Int), exB M b k x → exN M k x
  | 0, _, h => h
  | k + 1, x, h => ⟨⟨h.1.1, by have := h.1.2; omega⟩, h.2.1, fun c1 c2 => ⟨exB_ex hb k _ (h.2.2 c1 c2).1, fun c3 => exB_ex hb k _ ((h.2.2 c1 c2).2 c3)⟩⟩
theorem evN_s {vals : Nat → Int} {k : Nat} {x : Int} : evN M vals (k + 1) x = if mI M 2232 x.toNat = 1 then chk (mI M 2233 x.toNat)
    else if mI M 2232 x.toNat = 2 then chk (vals (mI M 2233 x.toNat).toNat)
    else if mI M 2232 x.toNat = 6 then (evN M vals k (mI M 2233 x.toNat)).bind fun u => chk (-u)
    else (evN M vals k (mI M 2233 x.toNat)).bind fun u => (evN M vals k (mI M 2234 x.toNat)).bind fun v => chk (if mI M 2232 x.toNat = 3 then u + v else if mI M 2232 x.toNat = 4 then u - v else u * v) := rfl
theorem exB_up {b b' : Nat} (hb : b ≤ b') : ∀ (k : Nat) (x : Int), exB M b k x → exB M b' (k + 1) x ∧ exB M b' k x ∧ ∀ vals, evN M vals (k + 1) x = evN M vals k x
  | 0, _, h => h.elim
  | k + 1, x, h => by
    have ih := exB_up hb k
    obtain ⟨h1, h2, h3⟩ := h
    refine ⟨⟨⟨h1.1, by omega⟩, h2, fun c1 c2 => ⟨(ih _ (h3 c1 c2).1).1, fun c3 => (ih _ ((h3 c1 c2).2 c3)).1⟩⟩, ⟨⟨h1.1, by omega⟩, h2, fun c1 c2 => ⟨(ih _ (h3 c1 c2).1).2.1, fun c3 => (ih _ ((h3 c1 c2).2 c3)).2.1⟩⟩, fun vals => ?_⟩
    rw [evN_s (k := k + 1) (x := x), evN_s (k := k) (x := x)]
    by_cases c1 : mI M 2232 x.toNat = 1
    · rw [if_pos c1, if_pos c1]
    · rw [if_neg c1, if_neg c1]
      by_cases c2 : mI M 2232 x.toNat = 2
      · rw [if_pos c2, if_pos c2]
      · rw [if_neg c2, if_neg c2, (ih _ (h3 c1 c2).1).2.2 vals]
        by_cases c6 : mI M 2232 x.toNat = 6
        · rw [if_pos c6, if_pos c6]
        · rw [if_neg c6, if_neg c6, (ih _ ((h3 c1 c2).2 c6)).2.2 vals]
theorem exB_mono {b b' : Nat} (hb : b ≤ b') {x : Int} : ∀ (j k : Nat), exB M b k x → exB M b' (k + j) x ∧ ∀ vals, evN M vals (k + j) x = evN M vals k x
  | 0, k, h => ⟨(exB_up hb k x h).2.1, fun _ => rfl⟩
  | j + 1, k, h => by
    obtain ⟨i1, i2⟩ := exB_mono (b' := b') hb j k h
    have u := exB_up (Nat.le_refl b') (k + j) x i1
    exact ⟨u.1, fun vals => (u.2.2 vals).trans (i2 vals)⟩
theorem exB_nd {b b' : Nat} (h : ndB b' M M') (hb : b ≤ b') : ∀ (k : Nat) (x : Int), exB M b k x → exB M' b k x ∧ ∀ vals, evN M' vals k x = evN M vals k x
  | 0, _, h => h.elim
  | k + 1, x, g => by
    have ih := exB_nd h hb k
    obtain ⟨h1, h2, h3⟩ := g
    have e2 := h 2232 x.toNat (by omega) (by omega) (by omega)
    have e3 := h 2233 x.toNat (by omega) (by omega) (by omega)
    have e4 := h 2234 x.toNat (by omega) (by omega) (by omega)
    constructor
    · rw [exB, e2, e3, e4]
      exact ⟨h1, h2, fun c1 c2 => ⟨(ih _ (h3 c1 c2).1).1, fun c3 => (ih _ ((h3 c1 c2).2 c3)).1⟩⟩
    · intro vals
      rw [evN_s (M := M'), evN_s (M := M), e2, e3, e4]
      by_cases c1 : mI M 2232 x.toNat = 1
      · rw [if_pos c1, if_pos c1]
      · rw [if_neg c1, if_neg c1]
        by_cases c2 : mI M 2232 x.toNat = 2
        · rw [if_pos c2, if_pos c2]
        · rw [if_neg c2, if_neg c2, (ih _ (h3 c1 c2).1).2 vals]
          by_cases c6 : mI M 2232 x.toNat = 6
          · rw [if_pos c6, if_pos c6]
          · rw [if_neg c6, if_neg c6, (ih _ ((h3 c1 c2).2 c6)).2 vals]
end RTEXT
