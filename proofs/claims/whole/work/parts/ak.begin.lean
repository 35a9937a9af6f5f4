/-! the law from its first instruction -/
section LAWBEGIN
variable {q : Nat × (Nat → Int)}
def zM0 : ZMem := (fun _ _ => 0, fun _ _ => 0, fun _ => (0, 0), 1, 0)
set_option maxHeartbeats 4000000 in
theorem law_begin (hq : ∀ j, inR (q.2 j)) (hq1 : q.1 ≤ 2048) : XL q (299 + 1) 0 [some (zr 1), none, none, none] [] zM0 := by
  refine XL.up (pc' := 3) (fun _ _ k => x_new cf9 lcL_7 ni9 nz9 dL_law_0 k) ?_
  refine XL.up (pc' := 4) (fun _ _ k => x_dupR dL_law_3 k) ?_
  obtain ⟨Ma, c1, g1, n1, t1, s1, h1⟩ := i9_init (d := 295) (M := zNew zM0 (19, 0) 5) rfl rfl (by decide)
  refine XL.up (pc' := 7) (st' := [zr 2]) (fun _ _ k => x_callI (as := []) k9_init (z_in 113 (by decide +kernel) rfl) (by decide) dL_law_4 rfl (by decide) (zs8 rfl) c1 k) ?_
  refine XL.up (pc' := 8) (L' := [some (zr 1), some (zr 2), none, none]) (fun _ _ k => x_astore_n dL_law_7 rfl (by decide) rfl k) ?_
  have hz : mz Ma = 2229 := g1.1
  have hw : mw Ma = 32791 := g1.2.1
  refine XL.up (pc' := 11) (fun _ _ k => x_new cf10 lcL_10 ni10 nz10 dL_law_8 k) ?_
  refine XL.up (pc' := 12) (fun _ _ k => x_dupR dL_law_11 k) ?_
  obtain ⟨Mb, c2, g2, t2, i7, i9⟩ := i10_init (d := 299) (M := zNew Ma (20, 0) 21) (o := mz Ma + 1) (mz_new _ _ _).symm (by rw [mS_new, if_pos rfl]) (by omega)
  refine XL.up (pc' := 15) (st' := [zr 2230]) (fun _ _ k => x_callI (as := []) k10_init (z_in 943 (by decide +kernel) rfl) (by omega) dL_law_12 rfl (by decide) (zs8 rfl) c2 (by rw [hz]; exact k)) ?_
  rw [hz] at g2 t2 i7 i9
  have G : Gx Ma Mb 2230 (1 + 10) (21 + 370409) := gx_new.trans g2 (Or.inl rfl)
  have hzb := G.1
  have hwb := G.2.1
  refine XL.up (pc' := 16) (L' := [some (zr 1), some (zr 2), some (zr 2230), none]) (fun _ _ k => x_astore_n dL_law_15 rfl (by decide) rfl k) ?_
  refine XL.up (pc' := 17) (fun _ _ k => x_iconst dL_law_16 (show inR 0 from ⟨by decide, by decide⟩) k) ?_
  refine XL.up (pc' := 18) (L' := [some (zr 1), some (zr 2), some (zr 2230), some (zi 0)]) (fun _ _ k => x_istore_n dL_law_17 rfl (by decide) rfl k) ?_
  have tt := t1.keep (G.sm (lo := 2) (hi := 2230) (by omega) (by omega))
  have ss : ∀ k, k < 4 → SrF Mb (44 + 444 * k) := fun k hk => (s1 k hk).keep (G.sm (by omega) (by omega))
  have hh : SrF Mb 1803 := h1.keep (G.sm (by omega) (by omega))
  have z0 : Z0 Mb := fun a j a1 a2 => by
    rw [G.2.2.2.2 a (by omega)]
    exact n1 a j (show 2 < a by omega) (by omega)
  have z30 : ∀ j, mI Mb 2230 j = 0 := fun j => by
    rw [g2.2.2.2.2 2230 (by rw [mz_new]; omega), mI_new, if_pos (by omega)]
  exact law_loop (K := Mb) tt t2 (fun k hk => ⟨(ss k hk).1, (ss k hk).2.1.1, (ss k hk).2.2.1⟩) ⟨hh.1, hh.2.1.1, hh.2.2.1⟩ ⟨by omega, by omega⟩ hq hq1 513 0 Mb 0 rfl rfl (first_LaR z0 i9 i7 z30 ss hh)
end LAWBEGIN
