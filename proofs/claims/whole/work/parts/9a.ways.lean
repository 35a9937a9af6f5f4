/-! ways on both sides: what they need -/
/-- the nodes of the parts, one behind the other -/
def CW (M : ZMem) (lo hi i : Nat) (F L : Int) (V : Nat → Int) : Prop := (∀ j : Nat, j < i → PN M lo hi (pk M F j) ∧ mI M 2233 (pk M F j).toNat = V j) ∧ (∀ a b : Nat, a < b → b < i → pk M F a < pk M F b) ∧ pk M F i = -1 ∧ (1 ≤ i → L = pk M F (i - 1))
theorem CW_first {M : ZMem} {lo hi c : Nat} {x : Int} {V : Nat → Int} (hc : nds M c 12 x 0 0) (h1 : lo ≤ c) (h2 : c < hi) (hV : V 0 = x) : CW M lo hi 1 c c V := by
  refine ⟨fun j hj => ?_, fun a b h1 h2 => by omega, ?_, fun _ => rfl⟩
  · have : j = 0 := by omega
    subst this
    refine ⟨⟨⟨by show (lo : Int) ≤ (c : Int); omega, by show (c : Int) < hi; omega⟩, ?_⟩, ?_⟩
    · show mI M 2232 ((c : Int)).toNat = 12
      rw [Int.toNat_natCast]; exact hc.1
    · show mI M 2233 ((c : Int)).toNat = _
      rw [Int.toNat_natCast, hc.2.1]; exact hV.symm
  · show mI M 2236 ((c : Int)).toNat = -1
    rw [Int.toNat_natCast]; exact hc.2.2.2.2
theorem CW_keep {M M' : ZMem} {lo h1 h3 i : Nat} {F L : Int} {V V' : Nat → Int} (h : CW M lo h1 i F L V) (hnd : ndB h1 M M') (h13 : h1 ≤ h3) (hV : ∀ j, j < i → V' j = V j) : CW M' lo h3 i F L V' := by
  obtain ⟨a1, a2, a3, a4⟩ := h
  have hB : Kp lo h1 M M' := Kp.nd hnd (Nat.le_refl _)
  have ep : ∀ t : Nat, t ≤ i → pk M' F t = pk M F t := fun t ht => pk_kp hB t fun k hk => (a1 k (by omega)).1
  refine ⟨fun j hj => ?_, fun a b h1 h2 => ?_, ?_, fun c => ?_⟩
  · obtain ⟨⟨⟨p1, p2⟩, p3⟩, p4⟩ := a1 j hj
    rw [ep j (by omega)]
    refine ⟨⟨⟨p1, by omega⟩, ?_⟩, ?_⟩
    · rw [hnd 2232 _ (by omega) (by omega) (by omega)]; exact p3
    · rw [hnd 2233 _ (by omega) (by omega) (by omega), hV j hj]; exact p4
  · rw [ep a (by omega), ep b (by omega)]; exact a2 a b h1 h2
  · rw [ep i (Nat.le_refl _)]; exact a3
  · rw [ep _ (by omega)]; exact a4 c
theorem CW_next {M M' : ZMem} {lo h1 h3 i c : Nat} {F L x : Int} {V V' : Nat → Int} (h : CW M lo h1 i F L V) (hi : 1 ≤ i) (hlo : lo ≤ h1) (hnd : ndB h1 M M') (hc : nds M' c 12 x 0 0) (hc1 : h1 ≤ c) (hc2 : c < h3) (hV : ∀ j, j < i → V' j = V j) (hx : V' i = x) : CW (sI M' 2236 L.toNat c) lo h3 (i + 1) F c V' := by
  obtain ⟨a1, a2, a3, a4⟩ := h
  have hL := a4 hi
  obtain ⟨⟨⟨l1, l2⟩, l3⟩, l4⟩ := a1 (i - 1) (by omega)
  rw [← hL] at l1 l2
  have low : ∀ j, j < i → pk (sI M' 2236 L.toNat c) F j = pk M F j := by
    intro j
    induction j with
    | zero => exact fun _ => rfl
    | succ j ih =>
      intro hj
      obtain ⟨⟨⟨p1, p2⟩, p3⟩, p4⟩ := a1 j (by omega)
      have lt := a2 j (i - 1) (by omega) (by omega)
      rw [← hL] at lt
      show mI (sI M' 2236 L.toNat c) 2236 (pk (sI M' 2236 L.toNat c) F j).toNat = mI M 2236 (pk M F j).toNat
      rw [ih (by omega), mI_sI, if_neg (by omega)]
      exact hnd 2236 _ (by omega) (by omega) (by omega)
  have ei : pk (sI M' 2236 L.toNat c) F i = (c : Int) := by
    obtain ⟨k, rfl⟩ : ∃ k, i = k + 1 := ⟨i - 1, by omega⟩
    show mI (sI M' 2236 L.toNat c) 2236 (pk (sI M' 2236 L.toNat c) F k).toNat = _
    rw [low k (by omega)]
    have e : k + 1 - 1 = k := by omega
    rw [e] at hL
    rw [← hL, mI_sI, if_pos ⟨rfl, rfl⟩]
  have hkp : ∀ f j, 2232 ≤ f → f ≤ 2235 → mI (sI M' 2236 L.toNat c) f j = mI M' f j := fun f j q1 q2 => by rw [mI_sI, if_neg (by omega)]
  refine ⟨fun j hj => ?_, fun a b h1 h2 => ?_, ?_, fun _ => ?_⟩
  · by_cases c1 : j < i
    · obtain ⟨⟨⟨p1, p2⟩, p3⟩, p4⟩ := a1 j c1
      rw [low j c1]
      refine ⟨⟨⟨p1, by omega⟩, ?_⟩, ?_⟩
      · rw [hkp _ _ (by omega) (by omega), hnd 2232 _ (by omega) (by omega) (by omega)]; exact p3
      · rw [hkp _ _ (by omega) (by omega), hnd 2233 _ (by omega) (by omega) (by omega), hV j c1]; exact p4
    · have : j = i := by omega
      subst this
      rw [ei]
      refine ⟨⟨⟨by omega, by omega⟩, ?_⟩, ?_⟩
      · rw [hkp _ _ (by omega) (by omega), Int.toNat_natCast]; exact hc.1
      · rw [hkp _ _ (by omega) (by omega), Int.toNat_natCast, hc.2.1]; exact hx.symm
  · by_cases c1 : b < i
    · rw [low a (by omega), low b c1]; exact a2 a b h1 c1
    · have : b = i := by omega
      subst this
      rw [ei, low a h1]
      obtain ⟨⟨⟨p1, p2⟩, p3⟩, p4⟩ := a1 a h1
      omega
  · show mI (sI M' 2236 L.toNat c) 2236 (pk (sI M' 2236 L.toNat c) F i).toNat = -1
    rw [ei, Int.toNat_natCast, mI_sI, if_neg (by omega)]
    exact hc.2.2.2.2
  · rw [show i + 1 - 1 = i by omega, ei]
section WAYS
variable {K M0 : ZMem} {tp : Nat → Int} {n N T : Nat}
/-- the state behind a bar -/
def zBar (S1 : St) (s : Int) : St := (S1.1 + 1, S1.2.1, S1.2.2.1, fup S1.2.2.2.1 S1.2.1 (-1), 1, pPart (zg S1) s)
theorem zb_ways {S1 : St} {s : Int} {i : Nat} (h59 : tp S1.1 ≠ 59) (ear : zAr S1 = s) (hh : gHas (zg S1) s) (ek : gKind (zg S1) s = 5) (h1 : 1 ≤ S1.2.1) (hp : (zg S1).1 6 s.toNat = (i : Int)) : (tp S1.1 = 41 → zBehind tp n S1 = (1, S1.1 + 1, S1.2.1 - 1, S1.2.2)) ∧ (tp S1.1 = 124 → i < 6 → zBehind tp n S1 = (1, zBar S1 s)) ∧ ((tp S1.1 ≠ 41 ∧ (tp S1.1 ≠ 124 ∨ 6 ≤ i)) → zBehind tp n S1 = (0, S1)) := by
  unfold zBehind
  rw [ear, ek, if_neg h59]
  refine ⟨fun q => ?_, fun q q6 => ?_, fun q => ?_⟩
  · rw [if_neg (by omega), if_pos (by omega)]
  · rw [if_pos ⟨q, rfl⟩, if_pos ⟨hh, by omega⟩]; rfl
  · by_cases c : tp S1.1 = 124
    · rw [if_pos ⟨c, rfl⟩, if_neg (fun w => by have := w.2; omega)]
    · rw [if_neg (fun w => c w.1), if_neg (by omega), if_neg (by omega)]
/-- a bar -/
theorem Inn_bar {M M1 M2 : ZMem} {S S1 : St} {dt : Int} {m m1 : Nat} {σ0 σ : Int → Int} {i : Nat} {fs : Nat → Int} {hi : Nat} {hole : Int} (h0 : 0 ≤ zsz S) (h40 : zsz S < 40) (h : Inn K M0 M tp n N T S 5 dt m σ0 M1 S1 m1 σ i fs hi hole 0) (h59 : tp S1.1 ≠ 59) (hbar : tp S1.1 = 124) (h6 : i < 6) (hn : NM K M0 M2 tp n T (S1.1 + 1) (-1) ((S.2.1 : Int) + 1) (zsz S1) m1) (hnd : ndB (T * 260 + m1) M1 M2) (hhi : hi ≤ T * 260 + m1) : Inn K M0 M tp n N T S 5 dt m σ0 M2 (zBar S1 (zsz S)) m1 σ i fs hi hole 1 ∧ SI n (zBar S1 (zsz S)) := by
  have ear := h.ar
  obtain ⟨⟨a1, ⟨a2, a3, a4⟩, a5, a6⟩, ⟨b1, b2, b3⟩, ⟨c1, c2, c3, c4⟩, ⟨d1, d2, d3, d4, d5, d6⟩, e1, ⟨f1, f2⟩, f3⟩ := h
  have hh : gHas (zg S1) (zsz S) := ⟨h0, c2, h40⟩
  have h40' := c3.1.2.2
  have hsz1 : zsz S1 ≤ 40 := h40'
  have hsz0 : 0 ≤ zsz S1 := by omega
  have hzb := (zb_ways (n := n) (i := i) h59 ear hh d3 (by omega) (by omega)).2.1 hbar h6
  have hzz : zStep tp N n S1 = (1, zBar S1 (zsz S)) := by rw [step_behind b2]; exact hzb
  have hr := reach_step (tp := tp) (N := N) (n := n) (S := S1) c1.2.1 (by rw [hzz]) (by rw [hzz]; show S1.1 < S1.1 + 1; omega)
  rw [hzz] at hr
  have eP : zg (zBar S1 (zsz S)) = pU (zg S1) 6 (zsz S).toNat ((zg S1).1 6 (zsz S).toNat + 1) := by
    show pPart (zg S1) (zsz S) = _
    unfold pPart
    rw [if_pos ⟨hh, by omega⟩]
  have esz : zsz (zBar S1 (zsz S)) = zsz S1 := by
    show (zg (zBar S1 (zsz S))).2.2.2 = _
    rw [eP]; rfl
  have hj : ∀ j t : Nat, j ≠ 6 → (zg (zBar S1 (zsz S))).1 j t = (zg S1).1 j t := fun j t q => by rw [eP, pU_at, if_neg (by omega)]
  have h6' : ∀ t : Nat, (zg (zBar S1 (zsz S))).1 6 t = if (t : Int) = zsz S then (i : Int) + 1 else (zg S1).1 6 t := fun t => by
    rw [eP, pU_at]
    by_cases c : (t : Int) = zsz S
    · rw [if_pos c, if_pos (by omega)]; omega
    · rw [if_neg c, if_neg (by omega)]
  have hG : Gr (zg S1) (zg (zBar S1 (zsz S))) := by
    refine ⟨⟨hsz0, by rw [eP]; exact Int.le_refl _, by rw [eP]; exact h40'⟩, fun j t q _ => hj j t (by omega), fun f l q => by rw [eP]; exact q, ?_⟩
    unfold gForm
    rw [if_neg (fun q => by
      have := q.2.1
      rw [eP] at this
      exact absurd this (Int.lt_irrefl _)), eP]
    rfl
  obtain ⟨k1, k2, k3, k4, k5⟩ := hG.g hh
  have hSI : SI n (zBar S1 (zsz S)) := by
    obtain ⟨⟨p1, p2, p3, p4, p5, p6⟩, q1, q2⟩ := c1
    refine ⟨⟨by rw [esz]; exact p1, pPart_DI p2, ?_, ?_, p5, by rw [eP]; exact p6⟩, hn.2.2.2.2.2, fun k hk => ?_⟩
    · rw [eP]
      have := p3.2
      refine ⟨p3.1, ?_⟩
      show (zg S1).2.1.2.2.2.1 ≤ ((S1.1 + 1 : Nat) : Int)
      omega
    · rw [eP]
      have := p4.2
      refine ⟨p4.1, ?_⟩
      show (zg S1).2.1.2.2.2.2 ≤ ((S1.1 + 1 : Nat) : Int)
      omega
    · obtain ⟨x1, x2, x3, x4, x5⟩ := q2 k hk
      obtain ⟨y1, y2, y3, y4, y5⟩ := hG.g x1
      have eo : (zBar S1 (zsz S)).2.2.1 = S1.2.2.1 := rfl
      rw [eo, y1, y5, y4]
      refine ⟨hG.has x1, x2, x3, ?_, x5⟩
      unfold gParts at x4 ⊢
      rw [if_pos x1] at x4
      rw [if_pos (hG.has x1), h6']
      split
      · omega
      · exact x4
  refine ⟨⟨⟨by rw [esz]; exact hn, ⟨by show S.1 < S1.1 + 1; omega, a3, by show (m1 : Int) + S.1 + 1 ≤ m + ((S1.1 + 1 : Nat) : Int); omega⟩, a5.trans hnd (by omega), a6.trans hr⟩, ⟨b1, rfl, fun k hk => ⟨(b3 k hk).1, ?_⟩⟩, ⟨hSI, by rw [esz]; exact c2, c3.trans hG, fun t t1 t2 => ?_⟩, ⟨by rw [hj 3 _ (by decide)]; exact d1, by rw [h6', if_pos (by omega)], k1.trans d3, k4.trans d4, k5.trans d5, k2.trans d6⟩, fun k hk => ?_, ⟨fun t t1 t2 => ?_, fun t t' t1 t2 t3 t4 et => f2 t t' t1 (by omega) t3 (by omega) et⟩, f3⟩, hSI⟩
  · show fup S1.2.2.2.1 S1.2.1 (-1) k = _
    rw [fup_ne (by omega)]
    exact (b3 k hk).2
  · obtain ⟨y3, y6, y7⟩ := c4 t t1 t2
    exact ⟨(hj 3 t (by decide)).trans y3, by rw [h6', if_neg (by omega)]; exact y6, fun u hu => (hj 7 _ (by decide)).trans (y7 u hu)⟩
  · obtain ⟨x1, x2, x3⟩ := e1 k hk
    exact ⟨(hj 7 _ (by decide)).trans x1, hG.has x2, (hG.g x2).2.2.2.1.trans x3⟩
  · obtain ⟨⟨a, b, ha, hb, hho, hBd⟩, hL⟩ := f1 t t1 (by omega)
    have hnb := hBd.2.1
    have hCt : Cl (zg S1) (zg (zBar S1 (zsz S))) t (t + 1) := fun u u1 u2 => ⟨hj 3 u (by decide), by rw [h6', if_neg (by omega)], fun v hv => hj 7 _ (by decide)⟩
    obtain ⟨x3, x6, x7⟩ := hCt t.toNat (by omega) (by omega)
    exact ⟨⟨a, b, ha, hb, hho, hBd.keep (Kp.nd hnd (by omega)) hG ⟨x6, x7⟩ fun _ _ => rfl⟩, hL.keep hBd.1 (hnd 2236 _ (by omega) (by omega) (by omega)) hG hCt fun _ _ => rfl⟩
end WAYS
