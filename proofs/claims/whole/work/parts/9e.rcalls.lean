/-! program and cost, the reference's side -/
section RCALLS
variable {K M : ZMem} {tp : Nat → Int} {n N T : Nat}
/-- what a read text leaves -/
def RE (K M M' : ZMem) (T T' : Nat) : Prop := KW K M' ∧ Fr (fun q => q = 2230 ∨ (2232 ≤ q ∧ q ≤ 2238)) M M' ∧ ndB (T * 260) M M' ∧ mI M' 2230 1 = 0 ∧ mI M' 2230 6 = T' ∧ ∀ j, (j = 0 ∨ 8 ≤ j) → mI M' 2230 j = mI M 2230 j
theorem RE_of {Mx : ZMem} {p m : Nat} {f op td : Int} (h : NM K M Mx tp n T p f op td m) (hnd : ndB (T * 260) M Mx) : RE K M (sI Mx 2230 1 0) T T := by
  obtain ⟨a, b, ⟨c2, c3, c4, c5, c6, c7⟩, e, g, hp⟩ := h
  refine ⟨a.sI _ _ _, (e.wide fun q hq => by omega).sI (Or.inl rfl), hnd.sc, mI_sI_eq, by rw [mI_sI, if_neg (by omega)]; exact c6, fun j hj => ?_⟩
  rw [mI_sI, if_neg (by omega)]
  exact g j (by omega)
theorem n_ends {d p m : Nat} {f : Int} {op td : Int} {Mx : ZMem} {Q : Int → ZMem → Prop} (hM : ModelAt K 2230) (hd : 1 ≤ d) (hn150 : n ≤ 150) (hf : -1 ≤ f ∧ f ≤ 150) (h : NM K M Mx tp n T p f op td m) (hnd : ndB (T * 260) M Mx)
    (q0 : f = -1 → p = n → RE K M (sI Mx 2230 1 0) T T → Q 0 (sI Mx 2230 1 0))
    (q1 : ∀ M' g, (g = if 0 ≤ f then f else (p : Int)) → (f = -1 → p ≠ n) → (∀ b, ndB b Mx M') → RE K M M' T T → (∀ a j, a ≠ 2230 → mI M' a j = mI Mx a j) → Q (-100 - g) M')
    (q2 : 0 ≤ f → p = n → RE K M (sI Mx 2230 1 0) T T → Q (-100 - f) (sI Mx 2230 1 0)) : Ci d q10_ends [zr 2230] Mx Q := by
  obtain ⟨d, rfl⟩ : ∃ e, d = e + 1 := ⟨d - 1, by omega⟩
  have hp := h.2.2.2.2.2
  obtain ⟨e2, e3, e4, e5, e6, e7⟩ := h.2.2.1
  have e1 := h.2.1.1
  refine B10_ends h.1 hM ⟨fun c => ?_, fun c => ?_⟩
  · rw [mI_sI, if_neg (by omega), e3]
    exact ⟨fun c2 => q0 (by omega) (by omega) (RE_of h hnd), fun c2 => ⟨⟨by omega, by omega⟩, q2 (by omega) (by omega) (RE_of h hnd)⟩⟩
  · refine B10_wrong _ h.1 hM ⟨fun cf => ?_, fun cf => ?_⟩
    · have a := h.fault (x := mI Mx 2230 3)
      have r := RE_of a hnd.sc
      have e33 := a.2.2.1.2.1
      refine ⟨a.1, ?_⟩
      rw [mI_sI, if_neg (by omega), e33, e3]
      refine ⟨fun c2 => absurd c2 (by omega), fun c2 => ⟨⟨by omega, by omega⟩, q1 _ f (by rw [if_pos (by omega)]) (by omega) (fun b => ndB.refl.sc.sc) (by rw [e3] at r; exact r) fun a j ha => by rw [mI_sI, if_neg (by omega), mI_sI, if_neg (by omega)]⟩⟩
    · have a := h.fault (x := mI Mx 2230 2)
      have r := RE_of a hnd.sc
      have e33 := a.2.2.1.2.1
      refine ⟨a.1, ?_⟩
      rw [mI_sI, if_neg (by omega), e33, e2]
      refine ⟨fun c2 => absurd c2 (by omega), fun c2 => ⟨⟨by omega, by omega⟩, q1 _ p (by rw [if_neg (by omega)]) (by omega) (fun b => ndB.refl.sc.sc) (by rw [e2] at r; exact r) fun a j ha => by rw [mI_sI, if_neg (by omega), mI_sI, if_neg (by omega)]⟩⟩
theorem NM_starts (hK : KW K M) (htape : mI M 2230 1 = n ∧ ∀ j, j < n → mI M 2231 j = tp j) (hTx : mI M 2230 6 = T) : NM K M (sI (sI (sI (sI (sI M 2230 2 0) 2230 3 (-1)) 2230 4 0) 2230 5 0) 2230 7 0) tp n T 0 (-1) 0 0 0 := by
  refine ⟨((((hK.sI _ _ _).sI _ _ _).sI _ _ _).sI _ _ _).sI _ _ _, ⟨?_, fun k hk => ?_⟩, ⟨?_, ?_, ?_, ?_, ?_, mI_sI_eq⟩, ((((Fr.refl.sI (Or.inl rfl)).sI (Or.inl rfl)).sI (Or.inl rfl)).sI (Or.inl rfl)).sI (Or.inl rfl), fun k hk => ?_, Nat.zero_le _⟩
  · rw [mI_sI, if_neg (by omega), mI_sI, if_neg (by omega), mI_sI, if_neg (by omega), mI_sI, if_neg (by omega), mI_sI, if_neg (by omega)]; exact htape.1
  · rw [mI_sI, if_neg (by omega), mI_sI, if_neg (by omega), mI_sI, if_neg (by omega), mI_sI, if_neg (by omega), mI_sI, if_neg (by omega)]; exact htape.2 k hk
  · rw [mI_sI, if_neg (by omega), mI_sI, if_neg (by omega), mI_sI, if_neg (by omega), mI_sI, if_neg (by omega), mI_sI_eq]; rfl
  · rw [mI_sI, if_neg (by omega), mI_sI, if_neg (by omega), mI_sI, if_neg (by omega), mI_sI_eq]
  · rw [mI_sI, if_neg (by omega), mI_sI, if_neg (by omega), mI_sI_eq]
  · rw [mI_sI, if_neg (by omega), mI_sI_eq]
  · rw [mI_sI, if_neg (by omega), mI_sI, if_neg (by omega), mI_sI, if_neg (by omega), mI_sI, if_neg (by omega), mI_sI, if_neg (by omega)]; exact hTx
  · rw [mI_sI, if_neg (by omega), mI_sI, if_neg (by omega), mI_sI, if_neg (by omega), mI_sI, if_neg (by omega), mI_sI, if_neg (by omega)]
theorem r_program {d k : Nat} (hT : Tp tp n) (hM : ModelAt K 2230) (hTb : T < 270) (hN : n < N) (hd : N + 33 ≤ d) (hk : k < 4) (hK : KW K M) (htape : mI M 2230 1 = n ∧ ∀ j, j < n → mI M 2231 j = tp j) (hTx : mI M 2230 6 = T) {O B : Nat → Int} {P : Pg} (hD : DI P) (hgo : ∀ g : Nat, (zGo tp N n 151 (zS0 O B P)).1 = g → g ≤ 150) {Q : Int → ZMem → Prop}
    (q1 : (zGo tp N n 151 (zS0 O B P)).1 = -1 → ∀ M' σ root, RE K M M' T (T + 1) → root ≠ -1 → PX M' (zg (zGo tp N n 151 (zS0 O B P)).2) σ root (-1) ((T + 1) * 260) → (∀ j, mI M' 2237 j = if j = k then root else mI M 2237 j) → (∀ j, mI M' 2238 j = if j = k then -1 else mI M 2238 j) → Q (zsz (zGo tp N n 151 (zS0 O B P)).2) M')
    (q0 : ∀ g : Nat, (zGo tp N n 151 (zS0 O B P)).1 = g → ∀ M', RE K M M' T T → (∀ j, mI M' 2237 j = mI M 2237 j) → (∀ j, mI M' 2238 j = mI M 2238 j) → Q (-100 - g) M') : Ci d q10_program [zr 2230, zi k] M Q := by
  obtain ⟨d, rfl⟩ : ∃ e, d = e + 21 + 1 := ⟨d - 22, by omega⟩
  have hn150 := hT.1
  refine B10_program k hK hM ⟨fun _ => B10_starts hK hM ?_, fun c => absurd ⟨by omega, by omega⟩ c⟩
  have a1 := NM_starts hK htape hTx
  have hnd1 : ndB (T * 260) M (sI (sI (sI (sI (sI M 2230 2 0) 2230 3 (-1)) 2230 4 0) 2230 5 0) 2230 7 0) := ndB.refl.sc.sc.sc.sc.sc
  refine ⟨a1.1, ?_⟩
  generalize sI (sI (sI (sI (sI M 2230 2 0) 2230 3 (-1)) 2230 4 0) 2230 5 0) 2230 7 0 = M1 at *
  have hps := prog_all (K := K) (tp := tp) (T := T) hT hM hTb hN (e := d) (by omega) 7 0 rfl
  refine hps M M1 (zS0 O B P) 0 (fun _ => 0) _ rfl rfl (show fup B 0 (-1) 0 = -1 from fup_self) (SI_0 hD) a1 (Nat.le_refl 0) (fun M3 S3 m3 σ3 g3 h59 => ⟨g3.1.1, ?_⟩) (fun M3 g p m3 op td x w1 w2 w3 w4 w5 => ⟨w1.1, ?_⟩)
  · have n3 := g3.1
    have hge := go_end hn150 rfl g3.2.2.2.1 g3.2.2.2.2.1.1 g3.2.2.2.2.1.2.1 g3.2.2.2.2.2.1.2.1 h59
    have hpz : (zg (zGo tp N n 151 (zS0 O B P)).2).2.2.1 = fNo P.2.2.1 := pz_go 151 (zS0 O B P)
    have hp3 := n3.2.2.2.2.2
    have f37 : ∀ a j, a = 2237 ∨ a = 2238 → mI M3 a j = mI M a j := fun a j ha => n3.2.2.2.1.i (by omega) j
    have h3 := g3.2.2.1
    rw [Nat.add_zero] at h3
    have hnd3 : ndB (T * 260) M M3 := hnd1.trans h3 (Nat.le_refl _)
    refine n_ends hM (by omega) hn150 (by omega) n3 hnd3 (fun _ hp r => ⟨r.1, fun _ => ?_, fun c => absurd (by decide) c⟩) (fun M4 g eg hp hn4 r hi => ⟨r.1, fun c => ?_, fun c => ?_⟩) (fun c => absurd c (by decide))
    · rw [if_pos hp] at hge
      rw [hge] at q1 hpz
      have hPX := PX_of hn150 g3 (by rw [hpz]; rfl) hTb
      have hroot : 0 ≤ σ3 0 := by
        obtain ⟨⟨a, b, hb, hB⟩, _⟩ := hPX.2.2.1 0 hPX.2.1.1
        have := hB.2.1
        omega
      obtain ⟨z1, z2, z3, z4, z5, z6⟩ := r
      have e5 := n3.2.2.1.2.2.2.1
      have x1 : mI (sI (sI (sI M3 2230 1 0) 2237 k (σ3 0)) 2238 k (-1)) 2230 6 = T := by rw [mI_sI, if_neg (by omega), mI_sI, if_neg (by omega)]; exact z5
      have e0 : σ3 (zsz (zS0 O B P)) = σ3 0 := rfl
      rw [e0, Int.toNat_natCast, x1]
      refine ⟨by omega, by omega, by omega, by omega, ⟨by omega, by omega⟩, ?_⟩
      have x2 : mI (sI (sI (sI (sI M3 2230 1 0) 2237 k (σ3 0)) 2238 k (-1)) 2230 6 ((T : Int) + 1)) 2230 5 = zsz S3 := by
        rw [mI_sI, if_neg (by omega), mI_sI, if_neg (by omega), mI_sI, if_neg (by omega), mI_sI, if_neg (by omega)]; exact e5
      rw [x2]
      refine q1 rfl _ σ3 (σ3 0) ⟨((z1.sI _ _ _).sI _ _ _).sI _ _ _, ((z2.sI (Or.inr (by omega))).sI (Or.inr (by omega))).sI (Or.inl rfl), fun a j h1 h2 h3 => ?_, ?_, ?_, fun j hj => ?_⟩ (by omega) (hPX.keep fun a j h1 h2 h3 => ?_) (fun j => ?_) (fun j => ?_)
      · rw [mI_sI, if_neg (by omega), mI_sI, if_neg (by omega), mI_sI, if_neg (by omega)]; exact z3 a j h1 h2 h3
      · rw [mI_sI, if_neg (by omega), mI_sI, if_neg (by omega), mI_sI, if_neg (by omega)]; exact z4
      · rw [mI_sI_eq]; omega
      · rw [mI_sI, if_neg (by omega), mI_sI, if_neg (by omega), mI_sI, if_neg (by omega)]; exact z6 j hj
      · rw [mI_sI, if_neg (by omega), mI_sI, if_neg (by omega), mI_sI, if_neg (by omega), mI_sI, if_neg (by omega)]
      · rw [mI_sI, if_neg (by omega), mI_sI, if_neg (by omega), mI_sI]
        by_cases c : j = k
        · rw [if_pos ⟨rfl, c⟩, if_pos c]
        · rw [if_neg (fun q => c q.2), if_neg c, mI_sI, if_neg (by omega)]; exact f37 _ _ (Or.inl rfl)
      · rw [mI_sI, if_neg (by omega), mI_sI]
        by_cases c : j = k
        · rw [if_pos ⟨rfl, c⟩, if_pos c]
        · rw [if_neg (fun q => c q.2), if_neg c, mI_sI, if_neg (by omega), mI_sI, if_neg (by omega)]; exact f37 _ _ (Or.inr rfl)
    · rw [if_neg (by decide)] at eg
      omega
    · rw [if_neg (hp rfl)] at hge
      rw [if_neg (by decide)] at eg
      rw [eg]
      exact q0 S3.1 (by rw [hge]) M4 r (fun j => (hi 2237 j (by decide)).trans (f37 _ _ (Or.inl rfl))) fun j => (hi 2238 j (by decide)).trans (f37 _ _ (Or.inr rfl))
  · have hg := w2 151 (by show n < 0 + 151; omega)
    rw [Nat.add_zero] at w3
    have hnd3 : ndB (T * 260) M M3 := hnd1.trans w3 (Nat.le_refl _)
    have f37 : ∀ a j, a = 2237 ∨ a = 2238 → mI M3 a j = mI M a j := fun a j ha => w1.2.2.2.1.i (by omega) j
    have hg150 := hgo g hg
    refine n_ends hM (by omega) hn150 (by omega) w1 hnd3 (fun c => absurd c (by omega)) (fun M4 g' eg hp hn4 r hi => ⟨r.1, fun c => ?_, fun c => ?_⟩) (fun _ hp r => ⟨r.1, fun c => absurd c (by omega), fun _ => q0 g hg _ r (fun j => ?_) fun j => ?_⟩)
    · rw [if_pos (by omega)] at eg
      omega
    · rw [if_pos (by omega)] at eg
      rw [eg]
      exact q0 g hg M4 r (fun j => (hi 2237 j (by decide)).trans (f37 _ _ (Or.inl rfl))) fun j => (hi 2238 j (by decide)).trans (f37 _ _ (Or.inr rfl))
    · rw [mI_sI, if_neg (by omega)]; exact f37 _ _ (Or.inl rfl)
    · rw [mI_sI, if_neg (by omega)]; exact f37 _ _ (Or.inr rfl)
end RCALLS
