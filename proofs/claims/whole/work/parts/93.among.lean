/-! among on both sides -/
/-- the nodes of an among, one behind the other -/
def CH (M : ZMem) (P : Fm) (lo hi g i : Nat) (F L : Int) : Prop := (∀ j : Nat, j < i → PN M lo hi (pk M F j) ∧ EqR M P hi ((g + j : Nat) : Int) (mI M 2233 (pk M F j).toNat)) ∧ (∀ a b : Nat, a < b → b < i → pk M F a < pk M F b) ∧ pk M F i = -1 ∧ (1 ≤ i → L = pk M F (i - 1))
theorem CH_first {M : ZMem} {P : Fm} {lo hi g c : Nat} {x : Int} (hc : nds M c 12 x 0 0) (h1 : lo ≤ c) (h2 : c < hi) (hE : EqR M P hi (g : Int) x) : CH M P lo hi g 1 c c := by
  refine ⟨fun j hj => ?_, fun a b h1 h2 => by omega, ?_, fun _ => rfl⟩
  · have : j = 0 := by omega
    subst this
    refine ⟨⟨⟨by show (lo : Int) ≤ (c : Int); omega, by show (c : Int) < hi; omega⟩, ?_⟩, ?_⟩
    · show mI M 2232 ((c : Int)).toNat = 12
      rw [Int.toNat_natCast]; exact hc.1
    · show EqR M P hi _ (mI M 2233 ((c : Int)).toNat)
      rw [Int.toNat_natCast, hc.2.1]; exact hE
  · show mI M 2236 ((c : Int)).toNat = -1
    rw [Int.toNat_natCast]; exact hc.2.2.2.2
theorem CH_next {M M' : ZMem} {P P' : Fm} {lo h1 h3 g i c : Nat} {F L x : Int} (h : CH M P lo h1 g i F L) (hi : 1 ≤ i) (hlo : lo ≤ h1) (hnd : ndB h1 M M') (hc : nds M' c 12 x 0 0) (hc1 : h1 ≤ c) (hc2 : c < h3) (hF : ∀ f l, FE P f l → FE P' f l) (hE : EqR M' P' h3 ((g + i : Nat) : Int) x) : CH (sI M' 2236 L.toNat c) P' lo h3 g (i + 1) F c := by
  obtain ⟨a1, a2, a3, a4⟩ := h
  have hL := a4 hi
  obtain ⟨⟨⟨l1, l2⟩, l3⟩, l4⟩ := a1 (i - 1) (by omega)
  rw [← hL] at l1 l2
  have low : ∀ j, j < i → pk (sI M' 2236 L.toNat c) F j = pk M F j := by
    intro j
    induction j with
    | zero => exact fun _ => rfl
    | succ j ih =>
      intro hj
      obtain ⟨⟨⟨p1, p2⟩, p3⟩, p4⟩ := a1 j (by omega)
      have lt := a2 j (i - 1) (by omega) (by omega)
      rw [← hL] at lt
      show mI (sI M' 2236 L.toNat c) 2236 (pk (sI M' 2236 L.toNat c) F j).toNat = mI M 2236 (pk M F j).toNat
      rw [ih (by omega), mI_sI, if_neg (by omega)]
      exact hnd 2236 _ (by omega) (by omega) (by omega)
  have ei : pk (sI M' 2236 L.toNat c) F i = (c : Int) := by
    obtain ⟨k, rfl⟩ : ∃ k, i = k + 1 := ⟨i - 1, by omega⟩
    show mI (sI M' 2236 L.toNat c) 2236 (pk (sI M' 2236 L.toNat c) F k).toNat = _
    rw [low k (by omega)]
    have e : k + 1 - 1 = k := by omega
    rw [e] at hL
    rw [← hL, mI_sI, if_pos ⟨rfl, rfl⟩]
  have hkp : ∀ f j, 2232 ≤ f → f ≤ 2235 → mI (sI M' 2236 L.toNat c) f j = mI M' f j := fun f j q1 q2 => by rw [mI_sI, if_neg (by omega)]
  refine ⟨fun j hj => ?_, fun a b h1 h2 => ?_, ?_, fun _ => ?_⟩
  · by_cases c1 : j < i
    · obtain ⟨⟨⟨p1, p2⟩, p3⟩, p4⟩ := a1 j c1
      rw [low j c1]
      refine ⟨⟨⟨p1, by omega⟩, ?_⟩, ?_⟩
      · rw [hkp _ _ (by omega) (by omega), hnd 2232 _ (by omega) (by omega) (by omega)]; exact p3
      · rw [hkp _ _ (by omega) (by omega), hnd 2233 _ (by omega) (by omega) (by omega)]
        obtain ⟨g1, l, k, e1, e2, e3, e4, e5⟩ := p4
        have q := exB_kp (M := M) (M' := sI M' 2236 L.toNat c) (b := h1) (fun f j q1 q2 q3 => by rw [hkp _ _ q1 q2]; exact hnd f j q1 (by omega) (by omega)) k _ e3
        exact ⟨g1, l, k, e1, hF _ _ e2, (exB_mono (by omega) 0 k q.1).1, e4, fun vals hv => (q.2 vals).trans (e5 vals hv)⟩
    · have : j = i := by omega
      subst this
      rw [ei]
      refine ⟨⟨⟨by omega, by omega⟩, ?_⟩, ?_⟩
      · rw [hkp _ _ (by omega) (by omega), Int.toNat_natCast]; exact hc.1
      · rw [hkp _ _ (by omega) (by omega), Int.toNat_natCast, hc.2.1]
        exact hE.kp (fun f j q1 q2 _ => hkp f j q1 q2) fun _ _ q => q
  · by_cases c1 : b < i
    · rw [low a (by omega), low b c1]; exact a2 a b h1 c1
    · have : b = i := by omega
      subst this
      rw [ei, low a h1]
      obtain ⟨⟨⟨p1, p2⟩, p3⟩, p4⟩ := a1 a h1
      omega
  · show mI (sI M' 2236 L.toNat c) 2236 (pk (sI M' 2236 L.toNat c) F i).toNat = -1
    rw [ei, Int.toNat_natCast, mI_sI, if_neg (by omega)]
    exact hc.2.2.2.2
  · rw [show i + 1 - 1 = i by omega, ei]
section AMONG
variable {K M0 : ZMem} {tp : Nat → Int} {n N T : Nat}
def AmLeaf (K : ZMem) (d : Nat) (a1 l2 l3 l4 : Int) (M : ZMem) (Q : Int → ZMem → Prop) : Prop := inR (l4 + 1) ∧ (((l4 + 1) ≠ 6 → (Ci d q10_takes [zr 2230, zi 44] M (fun x M' => KW K M' ∧ Xi (d + 1) q10_readsChoose 45 [some (zr 2230), some (zi a1), some (zi l2), some (zi l3), some (zi (l4 + 1)), some (zi x), none, none] [] M' Q))) ∧ (¬ ((l4 + 1) ≠ 6) → (Ci d q10_peek [zr 2230] M (fun x1 M1 => KW K M1 ∧ ((x1 ≠ 44 → (Ci d q10_takes [zr 2230, zi 44] M1 (fun x M' => KW K M' ∧ Xi (d + 1) q10_readsChoose 45 [some (zr 2230), some (zi a1), some (zi l2), some (zi l3), some (zi (l4 + 1)), some (zi x), none, none] [] M' Q))) ∧ (¬ (x1 ≠ 44) → (Cv d q10_wrong [zr 2230, zi (mI M1 2230 2)] M1 (fun M2 => KW K M2 ∧ Ci d q10_takes [zr 2230, zi 44] M2 (fun x M' => KW K M' ∧ Xi (d + 1) q10_readsChoose 45 [some (zr 2230), some (zi a1), some (zi l2), some (zi l3), some (zi (l4 + 1)), some (zi x), none, none] [] M' Q)))))))))
/-- under a fault the among ends -/
theorem am_fault {d p m : Nat} {f op td a1 l2 l3 l4 l5 : Int} {M : ZMem} {Q : Int → ZMem → Prop} (hT : Tp tp n) (hM : ModelAt K 2230) (hTb : T < 270) (hd : 5 ≤ d) (hf : 0 ≤ f) (h : NM K M0 M tp n T p f op td m) (q : ∀ x M', NM K M0 M' tp n T p f op td m → (∀ b, ndB b M M') → Q x M') : Xi (d + 1) q10_readsChoose 45 [some (zr 2230), some (zi a1), some (zi l2), some (zi l3), some (zi l4), some (zi l5), none, none] [] M Q := by
  have e3 := h.2.2.1.2.1
  have w : Cv d q10_wants [zr 2230, zi 125] M (fun M1 => KW K M1 ∧ Ci d q10_writes [zr 2230, zi 9, zi a1, zi l2, zi l4] M1 (fun x5 M4 => KW K M4 ∧ Q x5 M4)) := n_wants_fault hT hM (by omega) hf (by decide) h fun M' a g => ⟨a.1, n_writes_fault hM hf hTb a fun x => ⟨a.1, q x M' a g⟩⟩
  exact B10_readsChoose_45 a1 l2 l3 l4 l5 h.1 hM ⟨fun _ => w, fun _ => ⟨fun _ => w, fun c => absurd (by omega) c⟩⟩
theorem am_leaf_fault {d p m : Nat} {f op td a1 l2 l3 l4 : Int} {M : ZMem} {Q : Int → ZMem → Prop} (hT : Tp tp n) (hM : ModelAt K 2230) (hTb : T < 270) (hd : 5 ≤ d) (hf : 0 ≤ f) (hl : 0 ≤ l4 ∧ l4 < 10) (h : NM K M0 M tp n T p f op td m) (q : ∀ x M', NM K M0 M' tp n T p f op td m → (∀ b, ndB b M M') → Q x M') : AmLeaf K d a1 l2 l3 l4 M Q := by
  have e3 := h.2.2.1.2.1
  have tk : ∀ M1, NM K M0 M1 tp n T p f op td m → (∀ b, ndB b M M1) → Ci d q10_takes [zr 2230, zi 44] M1 (fun x M' => KW K M' ∧ Xi (d + 1) q10_readsChoose 45 [some (zr 2230), some (zi a1), some (zi l2), some (zi l3), some (zi (l4 + 1)), some (zi x), none, none] [] M' Q) := fun M1 a1' g1 => n_takes hT a1' hM (by omega) (by decide) (fun _ => ⟨a1'.1, am_fault hT hM hTb hd hf a1' fun x M' a g => q x M' a fun b => (g1 b).trans (g b) (Nat.le_refl _)⟩) (fun c => absurd hf c) (fun c => absurd hf c)
  refine ⟨⟨by omega, by omega⟩, fun _ => tk M h fun b => ndB.refl, fun _ => n_peek hT h hM (by omega) ⟨h.1, fun _ => tk M h fun b => ndB.refl, fun _ => ?_⟩⟩
  refine B10_wrong _ h.1 hM ⟨fun _ => ?_, fun c => absurd (by omega) c⟩
  have a := h.fault (x := mI M 2230 3)
  rw [e3] at a ⊢
  exact ⟨a.1, tk _ a fun b => ndB.refl.sc⟩
end AMONG
