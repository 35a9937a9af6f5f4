/-! next on both sides -/
section NEXTS
variable {K M : ZMem}
theorem RS_chosen {P : Pg} {σ D : Int → Int} {root price : Int} {S : Sr} {U : Tr} {b t : Int} (h : RS P σ root price D S U b t) (hn0 : sC S 11 = 0) : chO (U.1 1) (U.1 13) U.2.2.1 0 (-1) 0 = xChosen S := by
  have dl := h.bd.2.2.2.2.2.2.2.2.2
  have hc0 : cur S = 0 := by unfold cur; omega
  have hni := h.2.2.2.1.noInner (by omega)
  have u1 : U.1 1 = sC S 8 := h.2.1.2.1
  have hl := CL_len (S := S)
  have hUl := h.2.2.2.1.1
  have hCL : CL S = S.2.1 := by
    unfold CL
    rw [List.eq_nil_of_length_eq_zero hni, List.append_nil]
  unfold xChosen
  rw [dl, hc0, u1]
  refine chosen_eq S.2.1 U.2.2.1 0 (-1) 0 0 (by omega) (fun J hJ => ?_) (fun c => absurd rfl c)
  have h45 := h.2.2.2.1.2.2.2.1 J hJ
  obtain ⟨_, l, hpt, _⟩ := h.pt (R := J) (by omega)
  rw [hCL] at hpt
  obtain ⟨_, _, _, h5, _, _, _, _, h10, h11⟩ := hpt
  exact ⟨h45, h10, h11 h45, h5⟩
/-- the reference has only chosen a search and its way -/
theorem LaR.sc2 {i : Nat} (h : LaR K M i) (hi : i < 512) {M' : ZMem} (k2 : KW K M') (F : Fr (fun q => q = 2230 ∨ q = 2240) M M') (h30 : ∀ j, j < 16 → mI M' 2230 j = mI M 2230 j) : LaR K M' (i + 1) := by
  obtain ⟨T, hT, ⟨P, S, hAt, hLS⟩, mk, ⟨P', S0, t1, t2⟩, _⟩ := h.srch hi (show 0 < 4 by decide)
  have r39 : mI M' 2239 = mI M 2239 := funext fun j => F.i (by decide) j
  refine mk _ k2 (F.wide fun q hq => by unfold bk; omega) h30 (fun j hj _ => by rw [r39]) ⟨P, S, hAt.frame k2 F fun j hj q => by omega, ?_⟩ ⟨P', S0, t1.frame k2 F fun j hj q => by omega, t2⟩
  rw [r39]
  exact hLS.keep (fun f j f1 f2 _ => F.i (by omega) j) (Nat.le_refl _) (by omega)
end NEXTS
