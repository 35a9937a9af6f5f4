/-! what the law feeds -/
section TAPE
variable {K K' M M' : ZMem} {d : Nat} {am : Nat → Int} {t : List Int} {b : Nat} {Q : Int → ZMem → Prop}
theorem At.frame2 {X : Nat → Prop} {o : Nat} {P : Pg} {S : Sr} (h : At K M o P S) (hK : KW K' M') (F : Fr X M M') (hx : ∀ j, j < 427 → ¬ X (o + j)) : At K' M' o P S := by
  refine ⟨hK, h.2.1.fr F fun j hj => by rw [Nat.add_assoc]; exact hx _ (by omega), h.2.2.1.fr F fun j hj => by rw [Nat.add_assoc]; exact hx _ (by omega), by rw [gG_fr F fun j hj => by rw [Nat.add_assoc]; exact hx _ (by omega)]; exact h.2.2.2.1, ?_⟩
  rw [← h.2.2.2.2]
  show (_, _, _, _, _, _, _) = (_, _, _, _, _, _, _)
  rw [gL_fr h.2.1 F fun j hj => by rw [Nat.add_assoc]; exact hx _ (by omega), gL_fr h.2.2.1 F fun j hj => by rw [Nat.add_assoc]; exact hx _ (by omega), gA_fr F fun j hj => by rw [Nat.add_assoc]; exact hx _ (by omega)]
  rw [show mI M' (o + 425) = mI M (o + 425) from funext fun j => F.i (hx 425 (by omega)) j, show mI M' (o + 426) = mI M (o + 426) from funext fun j => F.i (hx 426 (by omega)) j, show mI M' o = mI M o from funext fun j => F.i (hx 0 (by omega)) j]
  congr 1
  exact ways_fr fun i hi => gW_fr F fun j hj => by rw [show o + 397 + 4 * i + j = o + (397 + 4 * i + j) by omega]; exact hx _ (by omega)
/-- a search that may be begun -/
def Idl (K M : ZMem) (k : Nat) : Prop := ∃ P S, SrA K M k P S ∧ (∀ i, wB (S.1 i)) ∧ 0 ≤ sC S 13 ∧ sC S 13 ≤ 2000
def Bs (K M : ZMem) (am : Nat → Int) : Prop := (∀ k, k < 4 → Idl K M k) ∧ ∀ j, j < 3 → mI M 2230 j = am j
theorem Idl.keep {X : Nat → Prop} {k : Nat} (h : Idl K M k) (hK : KW K' M') (F : Fr X M M') (hx : ∀ j, j < 427 → ¬ X (44 + 444 * k + j)) : Idl K' M' k := by
  obtain ⟨P, S, h1, h2⟩ := h
  exact ⟨P, S, h1.frame2 hK F hx, h2⟩
theorem Bs.keep {X : Nat → Prop} (h : Bs K M am) (hK : KW K' M') (F : Fr X M M') (hx : ∀ q, 44 ≤ q → q < 2231 → ¬ X q) : Bs K' M' am :=
  ⟨fun k hk => (h.1 k hk).keep hK F fun j hj => hx _ (by omega) (by omega), fun j hj => by rw [F.i (hx 2230 (by decide) (by decide))]; exact h.2 j hj⟩
/-- the tape has these bytes -/
def Ta (K M : ZMem) (t : List Int) (b : Nat) : Prop := KW K M ∧ mI M 3 1 = t.length ∧ (∀ j, j < t.length → mI M 4 j = t.getD j 0) ∧ t.length ≤ b
theorem fdd (hTop : TopAt K 2) (hd : 1 ≤ d) {a : Int} (h : Ta K M t b) (hb : b < 150) (ha : 1 ≤ a ∧ a ≤ 255) (q : ∀ y M', 0 < y → Ta K M' (t ++ [a]) (b + 1) → Fr (fun q => q = 3 ∨ q = 4) M M' → Q y M') : Ci d q9_feed [zr 2, zi a] M Q := by
  obtain ⟨h1, h2, h3, h4⟩ := h
  refine c_feed hTop h1 hd h2 (by omega) ha fun M' k1 F e1 e2 => q _ M' (by omega) ⟨k1, ?_, fun j hj => ?_, ?_⟩ F
  · rw [e1, List.length_append]; rfl
  · rw [e2]
    rw [List.length_append] at hj
    have hj : j < t.length + 1 := hj
    by_cases c : j = t.length
    · rw [if_pos c, List.getD_eq_getElem?_getD, List.getElem?_append_right (by omega), c, Nat.sub_self]; rfl
    · rw [if_neg c, h3 j (by omega), List.getD_eq_getElem?_getD, List.getD_eq_getElem?_getD, List.getElem?_append_left (by omega)]
  · rw [List.length_append]
    show t.length + 1 ≤ b + 1
    omega
theorem nmm (hTop : TopAt K 2) (hd : 2 ≤ d) {v : Int} (h : Ta K M t b) (hb : b < 148) (hv : -9 ≤ v ∧ v ≤ 9) (q : ∀ M', Ta K M' (t ++ nt v) (b + 2) → Fr (fun q => q = 3 ∨ q = 4) M M' → Q 1 M') : Ci d qL_number [zr 2, zi v] M Q := by
  obtain ⟨d, rfl⟩ : ∃ e, d = e + 1 := ⟨d - 1, by omega⟩
  refine BL_number 2 v h.1 hTop ⟨fun c => ⟨fun _ => ⟨fun _ => ⟨c, ⟨by omega, by omega⟩, ?_⟩, fun c2 => absurd (by omega) c2⟩, fun c2 => absurd c c2⟩, fun c => ⟨⟨by omega, by omega⟩, fun c2 => absurd c2 c, fun _ => ?_⟩⟩
  · have e : v % 10 = v := Int.emod_eq_of_lt c (by omega)
    rw [e]
    refine fdd hTop (by omega) h (by omega) (by omega) fun y M' y0 h1 F => ⟨h1.1, fun c2 => absurd c2 (by omega), fun _ => q M' ?_ F⟩
    unfold nt
    rw [if_neg (by omega)]
    exact ⟨h1.1, h1.2.1, h1.2.2.1, Nat.le_succ_of_le h1.2.2.2⟩
  · refine fdd hTop (by omega) h (by omega) (by decide) fun y M1 y0 h1 F1 => ⟨h1.1, fun c2 => absurd c2 (by omega), fun _ => ⟨fun _ => ⟨by omega, ⟨by omega, by omega⟩, ?_⟩, fun c2 => absurd (by omega) c2⟩⟩
    have e : (-v) % 10 = -v := Int.emod_eq_of_lt (by omega) (by omega)
    rw [e]
    refine fdd hTop (by omega) h1 (by omega) (by omega) fun y M' y0 h2 F => ⟨h2.1, fun c2 => absurd c2 (by omega), fun _ => q M' ?_ (F1.trans F)⟩
    unfold nt
    rw [if_pos (by omega)]
    rw [List.append_assoc] at h2
    exact h2
end TAPE
