/-! the reference reads an E -/
theorem chk_val {w : Int} (h : -999 ≤ w ∧ w ≤ 999) : chk w = some w := if_pos h
theorem cw_V {vals : Nat → Int} {c : Int} (hv : ∀ k, isV (vals k)) (hc : (-1000 ≤ c ∧ c ≤ 999) ∨ (1000 ≤ c ∧ c < 1008) ∨ (c ≤ -1001 ∧ -1009 < c)) : -999 ≤ cw vals c ∧ cw vals c ≤ 999 := by
  unfold cw
  split
  · split
    · exact hv _
    · omega
  · split
    · have := hv (-1 - c - 1000).toNat
      have : -999 ≤ vals (-1 - c - 1000).toNat ∧ vals (-1 - c - 1000).toNat ≤ 999 := this
      omega
    · omega
theorem cw_V' {vals : Nat → Int} {c : Int} (hv : ∀ k, isV (vals k)) (h1 : -1008 ≤ c) (h2 : c ≤ 1007) : -999 ≤ cw vals c ∧ cw vals c ≤ 999 := cw_V hv (by omega)
section RSUM
variable {K M0 : ZMem} {tp : Nat → Int} {n T N : Nat} {op td : Int}
/-- two nodes joined -/
theorem ex_join {M M' : ZMem} {B b1 k k1 k2 : Nat} {x y : Int} {o : Int} (hnd : ndB B M M') (hx : exB M b1 k1 x) (hy : exB M b1 k2 y) (h1 : b1 ≤ B) (hk1 : k1 ≤ k) (hk2 : k2 ≤ k) (ho : o = 3 ∨ o = 4 ∨ o = 5) (hs : nds M' B o x y 0) : exB M' (B + 1) (k + 1) B ∧ ∀ vals, evN M' vals (k + 1) B = (evN M vals k1 x).bind fun u => (evN M vals k2 y).bind fun v => chk (if o = 3 then u + v else if o = 4 then u - v else u * v) := by
  obtain ⟨a1, a2⟩ := exB_nd hnd h1 _ _ hx
  obtain ⟨c1, c2⟩ := exB_nd hnd h1 _ _ hy
  obtain ⟨a3, a4⟩ := exB_mono (b' := B + 1) (by omega) (k - k1) k1 a1
  obtain ⟨c3, c4⟩ := exB_mono (b' := B + 1) (by omega) (k - k2) k2 c1
  rw [show k1 + (k - k1) = k by omega] at a3 a4
  rw [show k2 + (k - k2) = k by omega] at c3 c4
  constructor
  · refine ⟨⟨by omega, by omega⟩, fun c5 => ?_, fun c5 c6 => ⟨?_, fun c7 => ?_⟩⟩
    · rw [Int.toNat_natCast, hs.1] at c5; omega
    · rw [Int.toNat_natCast, hs.2.1]; exact a3
    · rw [Int.toNat_natCast, hs.2.2.1]; exact c3
  · intro vals
    rw [evN_s, Int.toNat_natCast, hs.1, if_neg (by omega), if_neg (by omega), if_neg (by omega), hs.2.1, hs.2.2.1, a4, a2, c4, c2]
theorem n_prod (hT : Tp tp n) (hM : ModelAt K 2230) (hTb : T < 270) (hN : n < N) {p0 d : Nat} (hd : N + 4 ≤ d) : ∀ (f q m : Nat) (l : FL) (y : Int) (M : ZMem) (Q : Int → ZMem → Prop), q ≤ n → n < q + f → m ≤ q → p0 < q → NM K M0 M tp n T q (-1) op td m → exB M (T * 260 + m) (q - p0) y → (∀ vals, (∀ k, isV (vals k)) → evN M vals (q - p0) y = (wst vals l).2.2) →
    (∀ M' f' q' m' l' y', er2 tp N f' q' l' = er2 tp N f q l → f' ≤ f → n < q' + f' → q ≤ q' → q' ≤ n → NM K M0 M' tp n T q' (-1) op td m' → ndB (T * 260 + m) M M' → m ≤ m' → m' + q ≤ m + q' → (∀ vals, (wst vals l').1 = (wst vals l).1 ∧ (wst vals l').2.1 = (wst vals l).2.1) → tp q' ≠ 42 → exB M' (T * 260 + m') (q' - p0) y' → (∀ vals, (∀ k, isV (vals k)) → evN M' vals (q' - p0) y' = (wst vals l').2.2) → Q y' M') →
    ((er2 tp N f q l).1 ≠ 1 → ∀ M' p' m' x, NM K M0 M' tp n T p' ((er2 tp N f q l).2.1 : Nat) op td m' → ndB (T * 260 + m) M M' → Q x M') → Xi (d + 1) q10_readsProduct 5 [some (zr 2230), some (zi y), none] [] M Q
  | 0, q, m, l, y, M, Q, hq, hf, hm, hp0, h, hy, hv, q1, q2 => by omega
  | f + 1, q, m, l, y, M, Q, hq, hf, hm, hp0, h, hy, hv, q1, q2 => by
    have hn := hT.1
    refine B10_readsProduct_5 y h.1 hM (n_takes hT h hM (by omega) (by decide) (fun c => absurd c (by decide)) (fun _ c => ⟨h.1, fun _ => ?_, fun c2 => absurd rfl c2⟩) (fun _ c hin M1 a1 g1 => ⟨a1.1, fun c2 => absurd c2 (by decide), fun _ => ?_⟩))
    · exact q1 M (f + 1) q m l y rfl (Nat.le_refl _) hf (Nat.le_refl _) hq h ndB.refl (Nat.le_refl _) (Nat.le_refl _) (fun _ => ⟨rfl, rfl⟩) c hy hv
    · have hj : jo (tp q) = 3 := by rw [c]; decide
      have e0 : er2 tp N (f + 1) q l = er tp N (f + 1) (q + 1) 3 l := by unfold er2; rw [hj, if_neg (by decide)]
      rw [e0] at q1 q2
      obtain ⟨u1, u2, u3, u4, u5, u6⟩ := un_b hT N (q + 1) (by omega) (by omega)
      refine n_unit hT hM hTb N (q + 1) m d M1 _ (by omega) (by omega) (by omega) (by omega) a1 (fun k1 M2 m2 x a2 g2 l1 l2 k2 k3 => ⟨a2.1, ?_⟩) (fun k1 M2 p2 m2 x a2 g2 => ⟨a2.1, ?_⟩)
      · have u4 := u4 k1
        rw [er_ok k1] at q1 q2
        generalize hu : (un tp N (q + 1)).2.1 = p' at *
        generalize hcc : (un tp N (q + 1)).2.2 = cc at *
        refine n_writes a2 hM hTb (fun _ => by omega) (fun c => absurd c (by decide)) fun _ M3 a3 g3 s3 => ⟨a3.1, ?_⟩
        obtain ⟨hy2, hv2⟩ := exB_nd (g1.trans g2 (Nat.le_refl _)) (Nat.le_refl _) _ _ hy
        obtain ⟨hy3, hv3⟩ := exB_mono (b' := T * 260 + m2) (by omega) 0 (q - p0) hy2
        obtain ⟨j1, j2⟩ := ex_join (k := p' - p0 - 1) g3 hy3 k2 (Nat.le_refl _) (by omega) (by omega) (Or.inr (Or.inr rfl)) s3
        rw [show p' - p0 - 1 + 1 = p' - p0 by omega] at j1 j2
        rw [Nat.add_assoc] at j1
        refine n_prod hT hM hTb hN hd f p' (m2 + 1) (l ++ [(3, cc)]) _ M3 Q (by omega) (by omega) (by omega) (by omega) a3 j1 (fun vals hvals => ?_) (fun M' f' q' m' l' y' z1 z2 z3 z4 z5 z6 z7 z8 z9 z10 z11 z12 z13 => ?_) (fun z1 M' p'' m' x z2 z3 => ?_)
        · rw [j2 vals, hv3 vals, hv2 vals, hv vals hvals, k3 vals, wst_app]
          have hw := cw_V' (c := cc) hvals u5 u6
          unfold wstp
          rw [if_pos rfl]
          show _ = (wst vals l).2.2.bind fun p => chk (p * cw vals cc)
          rw [chk_val hw]
          rfl
        · refine q1 M' f' q' m' l' y' z1 (by omega) z3 (by omega) z5 z6 (((g1.trans g2 (Nat.le_refl _)).trans g3 (by omega)).trans z7 (by omega)) (by omega) (by omega) (fun vals => ?_) z11 z12 z13
          have := z10 vals
          rw [wst_app] at this
          unfold wstp at this
          rw [if_pos rfl] at this
          exact this
        · exact q2 z1 M' p'' m' x z2 (((g1.trans g2 (Nat.le_refl _)).trans g3 (by omega)).trans z3 (by omega))
      · rw [er_bad k1] at q2
        refine n_writes a2 hM hTb (fun c => absurd (Int.natCast_nonneg _) c) (fun _ => ⟨a2.1, ?_⟩) (fun c => absurd (Int.natCast_nonneg _) c)
        refine B10_readsProduct_5 _ a2.1 hM (n_takes hT a2 hM (by omega) (by decide) (fun _ => ⟨a2.1, fun _ => ?_, fun c2 => absurd rfl c2⟩) (fun c => absurd (Int.natCast_nonneg _) c) (fun c => absurd (Int.natCast_nonneg _) c))
        exact q2 (show (0 : Int) ≠ 1 by decide) M2 p2 m2 _ a2 (g1.trans g2 (Nat.le_refl _))
theorem n_product (hT : Tp tp n) (hM : ModelAt K 2230) (hTb : T < 270) (hN : n < N) {d f p m : Nat} {l : FL} {j : Int} {M : ZMem} {Q : Int → ZMem → Prop} (hd : N + 5 ≤ d) (hp : p ≤ n) (hf : n < p + f) (hm : m ≤ p) (hj : j ≠ 3) (h : NM K M0 M tp n T p (-1) op td m)
    (q1 : ∀ M' f' q' m' l' y', er2 tp N f' q' l' = er tp N f p j l → f' < f → n < q' + f' → p < q' → q' ≤ n → NM K M0 M' tp n T q' (-1) op td m' → ndB (T * 260 + m) M M' → m ≤ m' → m' + p ≤ m + q' → (∀ vals, (wst vals l').1 = wfin (wst vals l) ∧ (wst vals l').2.1 = if j = 2 then -1 else 1) → tp q' ≠ 42 → exB M' (T * 260 + m') (q' - p) y' → (∀ vals, (∀ k, isV (vals k)) → evN M' vals (q' - p) y' = (wst vals l').2.2) → Q y' M')
    (q2 : (er tp N f p j l).1 ≠ 1 → ∀ M' p' m' x, NM K M0 M' tp n T p' ((er tp N f p j l).2.1 : Nat) op td m' → ndB (T * 260 + m) M M' → Q x M') : Ci d q10_readsProduct [zr 2230] M Q := by
  obtain ⟨d, rfl⟩ : ∃ e, d = e + 1 := ⟨d - 1, by omega⟩
  obtain ⟨f, rfl⟩ : ∃ e, f = e + 1 := ⟨f - 1, by omega⟩
  have hn := hT.1
  obtain ⟨u1, u2, u3, u4, u5, u6⟩ := un_b hT N p hp (by omega)
  refine B10_readsProduct h.1 hM (n_unit hT hM hTb N p m d M _ hp (by omega) hm (by omega) h (fun k1 M2 m2 x a2 g2 l1 l2 k2 k3 => ⟨a2.1, ?_⟩) (fun k1 M2 p2 m2 x a2 g2 => ⟨a2.1, ?_⟩))
  · have u4 := u4 k1
    rw [er_ok k1] at q1 q2
    generalize hu : (un tp N p).2.1 = p' at *
    generalize hcc : (un tp N p).2.2 = cc at *
    have est : ∀ vals, wst vals (l ++ [(j, cc)]) = (wfin (wst vals l), (if j = 2 then -1 else 1), chk (cw vals cc)) := fun vals => by
      rw [wst_app]
      unfold wstp
      exact if_neg hj
    refine n_prod hT hM hTb hN (by omega) (p0 := p) f p' m2 (l ++ [(j, cc)]) x M2 Q (by omega) (by omega) (by omega) u4 a2 k2 (fun vals hvals => by rw [k3 vals, est]) (fun M' f' q' m' l' y' z1 z2 z3 z4 z5 z6 z7 z8 z9 z10 z11 z12 z13 => ?_) (fun z1 M' p'' m' x z2 z3 => ?_)
    · refine q1 M' f' q' m' l' y' z1 (by omega) z3 (by omega) z5 z6 (g2.trans z7 (by omega)) (by omega) (by omega) (fun vals => ?_) z11 z12 z13
      have := z10 vals
      rw [est] at this
      exact this
    · exact q2 z1 M' p'' m' x z2 (g2.trans z3 (by omega))
  · rw [er_bad k1] at q2
    refine B10_readsProduct_5 _ a2.1 hM (n_takes hT a2 hM (by omega) (by decide) (fun _ => ⟨a2.1, fun _ => ?_, fun c2 => absurd rfl c2⟩) (fun c => absurd (Int.natCast_nonneg _) c) (fun c => absurd (Int.natCast_nonneg _) c))
    exact q2 (show (0 : Int) ≠ 1 by decide) M2 p2 m2 _ a2 g2
theorem fin_join {vals : Nat → Int} {l l' : FL} {o : Int} {g : Int} (h1 : (wst vals l').1 = wfin (wst vals l)) (h2 : (wst vals l').2.1 = g) (ho : (o = 3 ∧ g = 1) ∨ (o = 4 ∧ g = -1)) : ((lval vals l).bind fun u => (wst vals l').2.2.bind fun v => chk (if o = 3 then u + v else if o = 4 then u - v else u * v)) = lval vals l' := by
  unfold lval
  show _ = (wst vals l').1.bind fun a => (wst vals l').2.2.bind fun p => chk (a + (wst vals l').2.1 * p)
  rw [h1, h2]
  rcases ho with ⟨rfl, rfl⟩ | ⟨rfl, rfl⟩
  · congr 1; funext u; congr 1; funext v
    rw [if_pos rfl, Int.one_mul]
  · congr 1; funext u; congr 1; funext v
    rw [if_neg (by decide), if_pos rfl]
    congr 1
    omega
theorem n_sums (hT : Tp tp n) (hM : ModelAt K 2230) (hTb : T < 270) (hN : n < N) {p0 d : Nat} (hd : N + 5 ≤ d) : ∀ (f q m : Nat) (l : FL) (x : Int) (M : ZMem) (Q : Int → ZMem → Prop), q ≤ n → n < q + f → m ≤ q → p0 < q → tp q ≠ 42 → NM K M0 M tp n T q (-1) op td m → exB M (T * 260 + m) (q - p0) x → (∀ vals, (∀ k, isV (vals k)) → evN M vals (q - p0) x = lval vals l) →
    ((er2 tp N f q l).1 = 1 → ∀ M' m' x', NM K M0 M' tp n T (er2 tp N f q l).2.1 (-1) op td m' → ndB (T * 260 + m) M M' → m ≤ m' → m' + q ≤ m + (er2 tp N f q l).2.1 → exB M' (T * 260 + m') ((er2 tp N f q l).2.1 - p0) x' → (∀ vals, (∀ k, isV (vals k)) → evN M' vals ((er2 tp N f q l).2.1 - p0) x' = lval vals (er2 tp N f q l).2.2) → Q x' M') →
    ((er2 tp N f q l).1 ≠ 1 → ∀ M' p' m' x, NM K M0 M' tp n T p' ((er2 tp N f q l).2.1 : Nat) op td m' → ndB (T * 260 + m) M M' → Q x M') → Xi (d + 1) q10_readsSum 5 [some (zr 2230), some (zi x), none, none] [] M Q := by
  intro f
  induction f using Nat.strongRecOn with
  | ind f ih =>
    intro q m l x M Q hq hf hm hp0 h42 h hx hv q1 q2
    have hn := hT.1
    have e2 := h.2.2.1.1
    have e3 := h.2.2.1.2.1
    have key : ∀ (j o : Int) (M1 : ZMem), jo (tp q) = j → ((o = 3 ∧ j = 1) ∨ (o = 4 ∧ j = 2)) → q < n → NM K M0 M1 tp n T (q + 1) (-1) op td m → ndB (T * 260 + m) M M1 → Ci d q10_readsProduct [zr 2230] M1 (fun x12 M11 => KW K M11 ∧ Ci d q10_writes [zr 2230, zi o, zi x, zi x12, zi 0] M11 (fun x16 M15 => KW K M15 ∧ Xi (d + 1) q10_readsSum 5 [some (zr 2230), some (zi x16), none, none] [] M15 Q)) := fun j o M1 hj ho hin a1 g1 => by
      have e0 : er2 tp N f q l = er tp N f (q + 1) j l := by unfold er2; rw [hj, if_neg (by omega)]
      rw [e0] at q1 q2
      obtain ⟨hx1, hv1⟩ := exB_nd g1 (Nat.le_refl _) _ _ hx
      refine n_product hT hM hTb hN (f := f) (l := l) hd (by omega) (by omega) (by omega) (show j ≠ 3 by omega) a1 (fun M2 f' q' m' l' y' z1 z2 z3 z4 z5 z6 z7 z8 z9 z10 z11 z12 z13 => ⟨z6.1, ?_⟩) (fun z1 M2 p' m' x' z2 z3 => ⟨z2.1, ?_⟩)
      · refine n_writes z6 hM hTb (fun _ => by omega) (fun c => absurd c (by decide)) fun _ M3 a3 g3 s3 => ⟨a3.1, ?_⟩
        obtain ⟨hx2, hv2⟩ := exB_nd z7 (Nat.le_refl _) _ _ hx1
        obtain ⟨hx3, hv3⟩ := exB_mono (b' := T * 260 + m') (by omega) 0 (q - p0) hx2
        obtain ⟨j1, j2⟩ := ex_join (k := q' - p0 - 1) g3 hx3 z12 (Nat.le_refl _) (by omega) (by omega) (by omega) s3
        rw [show q' - p0 - 1 + 1 = q' - p0 by omega] at j1 j2
        rw [Nat.add_assoc] at j1
        rw [← z1] at q1 q2
        refine ih f' z2 q' (m' + 1) l' _ M3 Q z5 z3 (by omega) (by omega) z11 a3 j1 (fun vals hvals => ?_) (fun w1 M' m'' x' w2 w3 w4 w5 w6 w7 => ?_) (fun w1 M' p' m'' x' w2 w3 => ?_)
        · rw [j2 vals, hv3 vals, hv2 vals, hv1 vals, hv vals hvals, z13 vals hvals]
          exact fin_join (z10 vals).1 (z10 vals).2 (by
            rcases ho with ⟨o1, o2⟩ | ⟨o1, o2⟩
            · exact Or.inl ⟨o1, by rw [if_neg (by omega)]⟩
            · exact Or.inr ⟨o1, by rw [if_pos o2]⟩)
        · exact q1 w1 M' m'' x' w2 (((g1.trans z7 (Nat.le_refl _)).trans g3 (by omega)).trans w3 (by omega)) (by omega) (by omega) w6 w7
        · exact q2 w1 M' p' m'' x' w2 (((g1.trans z7 (Nat.le_refl _)).trans g3 (by omega)).trans w3 (by omega))
      · refine n_writes z2 hM hTb (fun c => absurd (Int.natCast_nonneg _) c) (fun _ => ⟨z2.1, ?_⟩) (fun c => absurd (Int.natCast_nonneg _) c)
        refine B10_readsSum_5 _ z2.1 hM ⟨fun _ => q2 z1 M2 p' m' _ z2 (g1.trans z3 (Nat.le_refl _)), fun c => ?_⟩
        rw [z2.2.2.1.2.1] at c
        exact absurd (Int.natCast_nonneg _) c
    have hend : jo (tp q) = 0 → Q x M := fun hj => by
      have e0 : er2 tp N f q l = (1, q, l) := by unfold er2; rw [if_pos hj]
      rw [e0] at q1
      exact q1 rfl M m x h ndB.refl (Nat.le_refl _) (Nat.le_refl _) hx hv
    refine B10_readsSum_5 x h.1 hM ⟨fun c => absurd c (by omega), fun _ => n_peek hT h hM (by omega) ⟨h.1, fun c => ?_, fun c => n_peek hT h hM (by omega) ⟨h.1, fun c2 => ?_, fun c2 => ?_⟩⟩⟩
    · have hin := hT.in (p := q) (by omega)
      refine n_peek hT h hM (by omega) ⟨h.1, ⟨by omega, by omega⟩, ?_⟩
      have a1 := h.at' (x := mI M 2230 2 + 1) (p' := q + 1) (by omega) (by omega)
      refine (key 1 3 _ (by rw [c]; decide) (Or.inl ⟨rfl, rfl⟩) hin a1 ndB.refl.sc).mono fun x12 M11 ⟨k1, k2⟩ => ⟨k1, fun c3 => absurd c c3, fun _ => k2⟩
    · refine hend ?_
      unfold jo
      rw [if_neg c, if_neg c2, if_neg h42]
    · have c2 := Decidable.not_not.mp c2
      have hin := hT.in (p := q) (by omega)
      refine n_peek hT h hM (by omega) ⟨h.1, ⟨by omega, by omega⟩, ?_⟩
      have a1 := h.at' (x := mI M 2230 2 + 1) (p' := q + 1) (by omega) (by omega)
      refine (key 2 4 _ (by rw [c2]; decide) (Or.inr ⟨rfl, rfl⟩) hin a1 ndB.refl.sc).mono fun x12 M11 ⟨k1, k2⟩ => ⟨k1, fun _ => k2, fun c3 => absurd c c3⟩
/-- an E -/
def ee (tp : Nat → Int) (N p : Nat) : Int × Nat × FL := er tp N N p 0 []
theorem n_sum (hT : Tp tp n) (hM : ModelAt K 2230) (hTb : T < 270) (hN : n < N) {d p m : Nat} {M : ZMem} {Q : Int → ZMem → Prop} (hd : N + 6 ≤ d) (hp : p ≤ n) (hm : m ≤ p) (h : NM K M0 M tp n T p (-1) op td m)
    (q1 : (ee tp N p).1 = 1 → ∀ M' m' x', NM K M0 M' tp n T (ee tp N p).2.1 (-1) op td m' → ndB (T * 260 + m) M M' → m ≤ m' → m' + p ≤ m + (ee tp N p).2.1 → exB M' (T * 260 + m') ((ee tp N p).2.1 - p) x' → (∀ vals, (∀ k, isV (vals k)) → evN M' vals ((ee tp N p).2.1 - p) x' = lval vals (ee tp N p).2.2) → Q x' M')
    (q2 : (ee tp N p).1 ≠ 1 → ∀ M' p' m' x, NM K M0 M' tp n T p' ((ee tp N p).2.1 : Nat) op td m' → ndB (T * 260 + m) M M' → Q x M') : Ci d q10_readsSum [zr 2230] M Q := by
  obtain ⟨d, rfl⟩ : ∃ e, d = e + 1 := ⟨d - 1, by omega⟩
  have hn := hT.1
  unfold ee at q1 q2
  refine B10_readsSum h.1 hM (n_product hT hM hTb hN (f := N) (l := []) (j := 0) (by omega) hp (by omega) hm (by decide) h (fun M2 f' q' m' l' y' z1 z2 z3 z4 z5 z6 z7 z8 z9 z10 z11 z12 z13 => ⟨z6.1, ?_⟩) (fun z1 M2 p' m' x' z2 z3 => ⟨z2.1, ?_⟩))
  · rw [← z1] at q1 q2
    refine n_sums hT hM hTb hN (p0 := p) (by omega) f' q' m' l' y' M2 Q z5 z3 (by omega) z4 z11 z6 z12 (fun vals hvals => ?_) (fun w1 M' m'' x' w2 w3 w4 w5 w6 w7 => q1 w1 M' m'' x' w2 (z7.trans w3 (by omega)) (by omega) (by omega) w6 w7) (fun w1 M' p' m'' x' w2 w3 => q2 w1 M' p' m'' x' w2 (z7.trans w3 (by omega)))
    rw [z13 vals hvals]
    have e1 : (wst vals l').1 = some 0 := (z10 vals).1
    have e2 : (wst vals l').2.1 = 1 := (z10 vals).2
    unfold lval wfin
    rw [e1, e2]
    show _ = (wst vals l').2.2.bind fun p => chk (0 + 1 * p)
    have hb : ∀ u, (wst vals l').2.2 = some u → -999 ≤ u ∧ u ≤ 999 := fun u hu => evN_b ((z13 vals hvals).trans hu)
    cases hw : (wst vals l').2.2 with
    | none => rfl
    | some u =>
      show some u = chk (0 + 1 * u)
      rw [Int.one_mul, Int.zero_add, chk_val (hb u hw)]
  · refine B10_readsSum_5 _ z2.1 hM ⟨fun _ => q2 z1 M2 p' m' _ z2 z3, fun c => ?_⟩
    rw [z2.2.2.1.2.1] at c
    exact absurd (Int.natCast_nonneg _) c
end RSUM
