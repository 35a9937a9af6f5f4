/-! simple statements on both sides -/
section SIMPLE
variable {K M0 : ZMem} {tp : Nat → Int} {n N T : Nat}
theorem zAdd_2 {S : St} {kd dt : Int} : (zg (zAdd S kd dt)).2 = ((zg S).2.1, (zg S).2.2.1, zsz S + 1) := zLnk_2
def sUp (σ0 : Int → Int) (s x : Int) : Int → Int := fun i => if i = s then x else σ0 i
theorem sUp_self {σ0 : Int → Int} {s x : Int} : sUp σ0 s x s = x := if_pos rfl
/-- what is seen of the new statement -/
theorem new_facts {S S' : St} {kd dt : Int} (h : SI n S) (h40 : zsz S < 40) (hb : S.2.2.2.1 S.2.1 < zsz S) (hsz : zsz S < zsz S') (hle : zsz S' ≤ 40) (hj : ∀ j t : Nat, (j = 0 ∨ j = 2 ∨ j = 4 ∨ j = 5) → (t : Int) ≤ zsz S → (zg S').1 j t = (pNew S kd dt).1 j t) (h3 : (zg S').1 3 (zsz S).toNat = -1) : gHas (zg S') (zsz S) ∧ gKind (zg S') (zsz S) = kd ∧ gForm (zg S') (zsz S) = (zg S).2.1.2.2.2.2 ∧ gAround (zg S') (zsz S) = zAr S ∧ gLevel (zg S') (zsz S) = (S.2.1 : Int) ∧ gBehind (zg S') (zsz S) = -1 ∧ gDetail (zg S') (zsz S) = (zg S').1 1 (zsz S).toNat ∧ gParts (zg S') (zsz S) = (zg S').1 6 (zsz S).toNat := by
  have hs0 := h.1.1.1
  have hh : gHas (zg S') (zsz S) := ⟨hs0, hsz, h40⟩
  have e := fun j hj' => hj j (zsz S).toNat hj' (by omega)
  unfold gKind gForm gAround gLevel gBehind gDetail gParts
  rw [if_pos hh, if_pos hh, if_pos hh, if_pos hh, if_pos hh, if_pos hh, if_pos hh]
  refine ⟨hh, ?_, ?_, ?_, ?_, h3, rfl, rfl⟩
  · rw [e 0 (by omega), pNew_at (by decide) (by decide), if_pos rfl, if_pos rfl]
  · rw [e 2 (by omega), pNew_at (by decide) (by decide), if_pos rfl, if_neg (by decide), if_neg (by decide), if_pos rfl]
  · rw [e 4 (by omega), pNew_at (by decide) (by decide), if_pos rfl, if_neg (by decide), if_neg (by decide), if_neg (by decide), if_pos rfl]
  · rw [e 5 (by omega), pNew_at (by decide) (by decide), if_pos rfl, if_neg (by decide), if_neg (by decide), if_neg (by decide), if_neg (by decide), if_pos rfl]
/-- the draft grew by the new statement and what is in it -/
theorem new_gr {S S' : St} {kd dt : Int} (h : SI n S) (h40 : zsz S < 40) (hsz : zsz S < zsz S') (hle : zsz S' ≤ 40) (hj : ∀ j t : Nat, (j = 0 ∨ j = 2 ∨ j = 4 ∨ j = 5) → (t : Int) ≤ zsz S → (zg S').1 j t = (pNew S kd dt).1 j t) (hj1 : ∀ t : Nat, (t : Int) < zsz S → (zg S').1 1 t = (pNew S kd dt).1 1 t) (hF : ∀ f l, FE (zg S).2.1 f l → FE (zg S').2.1 f l) : Gr (zg S) (zg S') := by
  have hs0 := h.1.1.1
  refine ⟨⟨hs0, Int.le_of_lt hsz, hle⟩, fun j s hj' hs => ?_, hF, ?_⟩
  · have hs : (s : Int) < zsz S := hs
    by_cases c1 : j = 1
    · rw [c1, hj1 s hs, pNew_at (by decide) (by decide), if_neg (by omega)]
    · rw [hj j s (by omega) (by omega), pNew_at (by omega) (by omega), if_neg (by omega)]
  · show gForm (zg S') (zsz S) = _
    have hh : gHas (zg S') (zsz S) := ⟨hs0, hsz, h40⟩
    unfold gForm
    rw [if_pos hh, hj 2 _ (by omega) (by omega), pNew_at (by decide) (by decide), if_pos rfl, if_neg (by decide), if_neg (by decide), if_pos rfl]
theorem SI_next {S S' : St} (h : SI n S) (hPI : PI S') (hn : S'.1 ≤ n) (e1 : S'.2.1 = S.2.1) (e3 : ∀ k, k < S.2.1 → S'.2.2.1 k = S.2.2.1 k) (hG : Gr (zg S) (zg S')) (hC : ∀ t : Nat, (t : Int) < zsz S → (zg S').1 6 t = (zg S).1 6 t) : SI n S' := by
  refine ⟨hPI, hn, fun k hk => ?_⟩
  rw [e1] at hk
  obtain ⟨x1, x2, x3, x4, x5⟩ := h.2.2 k hk
  obtain ⟨y1, y2, y3, y4, y5⟩ := hG.g x1
  have x10 := x1.1
  have x11 : S.2.2.1 k < zsz S := x1.2.1
  rw [e3 k hk, y1, y5, y4]
  refine ⟨hG.has x1, x2, x3, ?_, ?_⟩
  · have : gParts (zg S') (S.2.2.1 k) = gParts (zg S) (S.2.2.1 k) := by
      unfold gParts
      rw [if_pos x1, if_pos (hG.has x1), hC _ (by omega)]
    rw [this]; exact x4
  · rw [x5]
    by_cases c : k = 0
    · rw [if_pos c, if_pos c]
    · rw [if_neg c, if_neg c, e3 _ (by omega)]
theorem zLnk_36 {P : Pg} {ar bf s : Int} {t : Nat} : (zLnk P ar bf s).1 6 t = P.1 6 t := pLink_6
/-- a statement that holds no other -/
theorem StP_simple {M M' : ZMem} {S S' : St} {m mB : Nat} {σ0 : Int → Int} {kd dt : Int} (h : SI n S) (h40 : zsz S < 40) (hb : S.2.2.2.1 S.2.1 < zsz S) (hT : T < 270) (hB : mB < 260) (r : Reach tp N n S S') (hn : NM K M0 M' tp n T S'.1 (-1) S.2.1 (zsz S + 1) (mB + 1)) (hp : S.1 < S'.1) (hm : m ≤ mB) (hmm : mB + 1 + S.1 ≤ m + S'.1) (hnd : ndB (T * 260 + m) M M')
    (e1 : S'.2.1 = S.2.1) (e2 : S'.2.2.2.2.1 = 0) (e3 : S'.2.2.1 = S.2.2.1) (e4 : S'.2.2.2.1 = fup S.2.2.2.1 S.2.1 (zsz S)) (hPI : PI S') (hsz : zsz S' = zsz S + 1) (hj : ∀ j t : Nat, (j ≠ 1 ∨ (t : Int) ≠ zsz S) → (zg S').1 j t = (pNew S kd dt).1 j t) (hF : ∀ f l, FE (zg S).2.1 f l → FE (zg S').2.1 f l)
    (hnx : mI M' 2236 (T * 260 + mB) = -1) (hk : Kds M' (zg S') (sUp σ0 (zsz S) ((T * 260 + mB : Nat) : Int)) (T * 260 + m) (T * 260 + mB + 1) (zsz S)) :
    StP K M0 M tp n N T S m σ0 M' S' (mB + 1) (sUp σ0 (zsz S) ((T * 260 + mB : Nat) : Int)) ∧ S'.2.2.2.1 S.2.1 = zsz S ∧ gBehind (zg S') (zsz S) = -1 ∧ mI M' 2236 (sUp σ0 (zsz S) ((T * 260 + mB : Nat) : Int) (zsz S)).toNat = -1 := by
  have hs0 := h.1.1.1
  obtain ⟨p1, p2, p3⟩ := pNew_lo (kd := kd) (dt := dt) h h40 hb
  have hj' : ∀ j t : Nat, (j = 0 ∨ j = 2 ∨ j = 4 ∨ j = 5) → (t : Int) ≤ zsz S → (zg S').1 j t = (pNew S kd dt).1 j t := fun j t q _ => hj j t (by omega)
  have h3' : (zg S').1 3 (zsz S).toNat = -1 := by rw [hj 3 _ (by omega)]; exact p2
  obtain ⟨f1, f2, f3, f4, f5, f6, f7, f8⟩ := new_facts (kd := kd) (dt := dt) h h40 hb (by omega) (by omega) hj' h3'
  have hG := new_gr (kd := kd) (dt := dt) h h40 (by omega) (by omega) hj' (fun t ht => hj 1 t (by omega)) hF
  have hlt : ∀ t : Nat, (t : Int) < zsz S → (zg S').1 6 t = (zg S).1 6 t := fun t ht => by rw [hj 6 t (by omega), pNew_at (by decide) (by decide), if_neg (by omega)]
  have hSI := SI_next h hPI hn.2.2.2.2.2 e1 (fun k _ => by rw [e3]) hG hlt
  have hσ : (sUp σ0 (zsz S) ((T * 260 + mB : Nat) : Int) (zsz S)).toNat = T * 260 + mB := by rw [sUp_self]; omega
  have hB : S'.2.2.2.1 S.2.1 = zsz S := by rw [e4, fup_self]
  have hnx' : mI M' 2236 (sUp σ0 (zsz S) ((T * 260 + mB : Nat) : Int) (zsz S)).toNat = -1 := by rw [hσ]; exact hnx
  have har : lvI (zg S') (zAr S) = (S.2.1 : Int) := by
    rw [lvI_gr hG (h.ar.elim Or.inl fun q => Or.inr q.1)]; exact h.lv
  refine ⟨⟨by rw [hsz]; exact hn, ⟨hp, by omega, hmm⟩, hnd, r, ⟨e1, e2, fun k hk => ⟨by rw [e3], by rw [e4, fup_ne (by omega)]⟩⟩, hSI, by omega, hG, fun s s1 s2 => ?_, ⟨fun s s1 s2 => ?_, fun s s' s1 s2 s3 s4 _ => by omega⟩, f4, fun i hi => if_neg (by omega)⟩, hB, f6, hnx'⟩
  · obtain ⟨x1, x2, x3⟩ := p1 s s1 s2
    exact ⟨(hj 3 s (by omega)).trans x1, (hj 6 s (by omega)).trans x2, fun t ht => (hj 7 _ (by omega)).trans (x3 t ht)⟩
  · have es : s = zsz S := by omega
    subst es
    refine ⟨⟨T * 260 + m, T * 260 + mB + 1, Nat.le_refl _, by omega, f1, ⟨?_, ?_, by omega⟩, by rw [f5, f4, har], ?_, hk⟩, Or.inl ⟨f6, hnx'⟩⟩
    · rw [sUp_self]; omega
    · rw [sUp_self]; omega
    · rw [f4]
      exact h.ar.elim Or.inl fun q => Or.inr (hG.has q.1)
/-- under a fault an E is read as nothing -/
theorem n_sum_fault {d p m : Nat} {f op td : Int} {M : ZMem} {Q : Int → ZMem → Prop} (hT : Tp tp n) (hM : ModelAt K 2230) (hd : 5 ≤ d) (hf : 0 ≤ f) (h : NM K M0 M tp n T p f op td m) (q : Q 0 M) : Ci d q10_readsSum [zr 2230] M Q := by
  obtain ⟨d, rfl⟩ : ∃ e, d = e + 3 := ⟨d - 3, by omega⟩
  have e3 := h.2.2.1.2.1
  refine B10_readsSum h.1 hM (B10_readsProduct h.1 hM (B10_readsUnit h.1 hM ⟨fun c => absurd c (by omega), fun _ => ⟨h.1, ?_⟩⟩))
  refine B10_readsProduct_5 (d := d + 1) 0 h.1 hM (n_takes hT h hM (by omega) (by decide) (fun _ => ⟨h.1, fun _ => ⟨h.1, ?_⟩, fun c2 => absurd rfl c2⟩) (fun c => absurd hf c) (fun c => absurd hf c))
  exact B10_readsSum_5 (d := d + 2) 0 h.1 hM ⟨fun _ => q, fun c => absurd (by omega) c⟩
theorem n_writes_fault {d p m : Nat} {f op td a b c e : Int} {M : ZMem} {Q : Int → ZMem → Prop} (hM : ModelAt K 2230) (hf : 0 ≤ f) (hT : T < 270) (h : NM K M0 M tp n T p f op td m) (q : ∀ x, Q x M) : Ci d q10_writes [zr 2230, zi a, zi b, zi c, zi e] M Q :=
  n_writes h hM hT (fun c => absurd hf c) (fun _ => q _) (fun c => absurd hf c)
/-- an E on both sides, for what the statement's nodes need -/
theorem EqR_new {M : ZMem} {S : St} {l : FL} {g k b : Nat} {x : Int} {P' : Pg} (hF : FE P'.2.1 g l) (hx : exB M b k x) (hk : k ≤ 150) (hv : ∀ vals, (∀ k, isV (vals k)) → evN M vals k x = lval vals l) {b' : Nat} (hb : b ≤ b') {f : Int} (hf : f = g) : EqR M P'.2.1 b' f x :=
  ⟨g, l, k, hf, hF, (exB_mono hb 0 k hx).1, hk, hv⟩
theorem n_cut {d : Nat} (hT : Tp tp n) (hM : ModelAt K 2230) (hTb : T < 270) {M M1 : ZMem} {S : St} {m : Nat} {σ0 : Int → Int} {Q : Int → ZMem → Prop} (h : SI n S) (hdue : S.2.2.2.2.1 = 1) (h40 : zsz S < 40) (hb : S.2.2.2.1 S.2.1 < zsz S) (hm : m ≤ S.1) (hz : zStmt tp N S = (1, zP (zAdd S 8 0) (S.1 + 1))) (hlt : S.1 < n) (hn : NM K M0 M1 tp n T (S.1 + 1) (-1) S.2.1 (zsz S + 1) m) (hnd : ndB (T * 260 + m) M M1)
    (q1 : ∀ M' S' m' σ, StP K M0 M tp n N T S m σ0 M' S' m' σ → S'.2.2.2.1 S.2.1 = zsz S → gBehind (zg S') (zsz S) = -1 → mI M' 2236 (σ (zsz S)).toNat = -1 → Q (σ (zsz S)) M') : Ci d q10_writes [zr 2230, zi 15, zi 0, zi 0, zi 0] M1 Q := by
  have hn150 := hT.1
  have hpn := h.2.1
  refine n_writes hn hM hTb (fun _ => by omega) (fun c => absurd c (by decide)) fun _ M2 a2 g2 s2 => ?_
  have hst := step_due (tp := tp) (N := N) (n := n) hdue
  have hr := reach_step (tp := tp) (N := N) (n := n) (S := S) hpn (by rw [hst, hz]) (by rw [hst, hz]; show S.1 < S.1 + 1; omega)
  rw [hst, hz] at hr
  have hsz : zsz (zP (zAdd S 8 0) (S.1 + 1)) = zsz S + 1 := congrArg (fun x : Fm × Fm × Int => x.2.2) zLnk_2
  have hpi := zAdd_pi h.1 h40 (by omega) (kd := 8) (dt := 0) (by decide)
  have hPI : PI (zP (zAdd S 8 0) (S.1 + 1)) := by
    obtain ⟨p1, p2, p3, p4, p5, p6⟩ := hpi
    refine ⟨p1, p2, ⟨p3.1, ?_⟩, ⟨p4.1, ?_⟩, p5, p6⟩
    · have h1 : (zg (zAdd S 8 0)).2.1.2.2.2.1 ≤ (S.1 : Int) := p3.2
      show (zg (zAdd S 8 0)).2.1.2.2.2.1 ≤ ((S.1 + 1 : Nat) : Int)
      omega
    · have h1 : (zg (zAdd S 8 0)).2.1.2.2.2.2 ≤ (S.1 : Int) := p4.2
      show (zg (zAdd S 8 0)).2.1.2.2.2.2 ≤ ((S.1 + 1 : Nat) : Int)
      omega
  have eF : (zg (zP (zAdd S 8 0) (S.1 + 1))).2.1 = (zg S).2.1 := by
    have e := zAdd_2 (S := S) (kd := 8) (dt := 0)
    exact congrArg (fun x => x.1) e
  have hj : ∀ j t : Nat, (j ≠ 1 ∨ (t : Int) ≠ zsz S) → (zg (zP (zAdd S 8 0) (S.1 + 1))).1 j t = (pNew S 8 0).1 j t := fun _ _ _ => rfl
  obtain ⟨p1, p2, p3⟩ := pNew_lo (kd := 8) (dt := 0) h h40 hb
  obtain ⟨f1, f2, f3, f4, f5, f6, f7, f8⟩ := new_facts (S' := zP (zAdd S 8 0) (S.1 + 1)) (kd := 8) (dt := 0) h h40 hb (by omega) (by omega) (fun _ _ _ _ => rfl) p2
  obtain ⟨r1, r2, r3, r4⟩ := StP_simple (M0 := M0) (M := M) (σ0 := σ0) (kd := 8) (dt := 0) h h40 hb hTb (by omega) hr a2 (by show S.1 < S.1 + 1; omega) (Nat.le_refl m) (by show m + 1 + S.1 ≤ m + (S.1 + 1); omega) (hnd.trans g2 (Nat.le_refl _)) rfl rfl rfl rfl hPI hsz hj (fun f l q => by rw [eF]; exact q) s2.2.2.2.2 (by
    refine Or.inr (Or.inr (Or.inr (Or.inr (Or.inr (Or.inr (Or.inl ⟨f2, ?_⟩))))))
    rw [sUp_self, Int.toNat_natCast]
    exact s2.1)
  have := q1 _ _ _ _ r1 r2 r3 r4
  rw [sUp_self] at this
  exact this
end SIMPLE
