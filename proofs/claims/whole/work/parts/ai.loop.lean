/-! the law: its loop -/
section LAWLOOP
variable {q : Nat × (Nat → Int)} {K : ZMem}
theorem law_loop (hTop : TopAt K 2) (hM : ModelAt K 2230) (hSr : ∀ k, k < 4 → SrK K (44 + 444 * k)) (hTh : SrK K 1803) (hz : mz K ≤ 10000 ∧ mw K ≤ 1000000) (hq : ∀ j, inR (q.2 j)) (hq1 : q.1 ≤ 2048) : ∀ (r n : Nat) (M : ZMem) (x : Int), n + r = 513 → x = 4 * n → LaR K M n → XL q (299 + 1) 18 [some (zr 1), some (zr 2), some (zr 2230), some (zi x)] [] M
  | 0, n, M, x, e, hx, h => by
    have hK := h.1
    refine XL.up (pc' := 19) (fun _ _ k => x_iload_n dL_law_18 rfl rfl k) ?_
    refine XL.up (pc' := 20) (fun _ _ k => x_aload_n dL_law_19 rfl rfl k) ?_
    refine XL.up (pc' := 21) (fun _ _ k => x_slen (by omega) dL_law_20 k) ?_
    refine XL.up (pc' := 22) (fun _ _ k => x_iconst dL_law_21 (show inR 4 from ⟨by decide, by decide⟩) k) ?_
    refine XL.up (pc' := 23) (fun _ _ k => x_isub dL_law_22 (show inR ((q.1 : Int) - 4) from ⟨by omega, by omega⟩) k) ?_
    by_cases c : (q.1 : Int) - 4 < x
    · refine XL.up (pc' := 663) (fun _ _ k => x_icmp_gt dL_law_23 rfl (fun _ => k) (fun c2 => absurd c c2)) ?_
      refine XL.up (pc' := 664) (fun _ _ k => x_iconst dL_law_663 (show inR 1 from ⟨by decide, by decide⟩) k) ?_
      exact ⟨M, x_ret (v := some (zi 1)) ⟨dL_law_664, Or.inr ⟨rfl, Or.inr rfl⟩⟩, by rw [hK.2.1]; exact hz.1, by rw [hK.2.2.1]; exact hz.2⟩
    · exact absurd (by omega) c
  | r + 1, n, M, x, e, hx, h => by
    have hK := h.1
    refine XL.up (pc' := 19) (fun _ _ k => x_iload_n dL_law_18 rfl rfl k) ?_
    refine XL.up (pc' := 20) (fun _ _ k => x_aload_n dL_law_19 rfl rfl k) ?_
    refine XL.up (pc' := 21) (fun _ _ k => x_slen (by omega) dL_law_20 k) ?_
    refine XL.up (pc' := 22) (fun _ _ k => x_iconst dL_law_21 (show inR 4 from ⟨by decide, by decide⟩) k) ?_
    refine XL.up (pc' := 23) (fun _ _ k => x_isub dL_law_22 (show inR ((q.1 : Int) - 4) from ⟨by omega, by omega⟩) k) ?_
    by_cases c : (q.1 : Int) - 4 < x
    · refine XL.up (pc' := 663) (fun _ _ k => x_icmp_gt dL_law_23 rfl (fun _ => k) (fun c2 => absurd c c2)) ?_
      refine XL.up (pc' := 664) (fun _ _ k => x_iconst dL_law_663 (show inR 1 from ⟨by decide, by decide⟩) k) ?_
      exact ⟨M, x_ret (v := some (zi 1)) ⟨dL_law_664, Or.inr ⟨rfl, Or.inr rfl⟩⟩, by rw [hK.2.1]; exact hz.1, by rw [hK.2.2.1]; exact hz.2⟩
    · refine XL.up (pc' := 26) (fun _ _ k => x_icmp_gt dL_law_23 rfl (fun c2 => absurd c2 c) (fun _ => k)) ?_
      have h1 : x + 4 ≤ q.1 := by omega
      have hn : n < 512 := by omega
      have h0 : 0 ≤ x := by omega
      refine XL.up (pc' := 27) (fun _ _ k => x_aload_n dL_law_26 rfl rfl k) ?_
      refine XL.up (pc' := 28) (fun _ _ k => x_iload_n dL_law_27 rfl rfl k) ?_
      refine XL.up (pc' := 29) (fun _ _ k => x_sld hq dL_law_28 (by omega) (by omega) k) ?_
      refine XL.up (pc' := 31) (fun _ _ k => x_bipush dL_law_29 (show inR 31 from ⟨by decide, by decide⟩) (by decide) k) ?_
      refine XL.up (pc' := 32) (fun _ _ k => x_iandK dL_law_31 k) ?_
      have nxt : ∀ M2, LaR K M2 (n + 1) → XL q (299 + 1) 657 [some (zr 1), some (zr 2), some (zr 2230), some (zi x)] [] M2 := fun M2 h2 => by
        refine XL.up (pc' := 660) (fun _ _ k => x_iinc dL_law_657 rfl (show inR (x + 4) from ⟨by omega, by omega⟩) (by decide) rfl k) ?_
        refine XL.up (pc' := 18) (fun _ _ k => x_goto dL_law_660 rfl k) ?_
        exact law_loop hTop hM hSr hTh hz hq hq1 r (n + 1) M2 (x + 4) (by omega) (by omega) h2
      generalize zAnd (q.2 x.toNat) 31 = v
      by_cases w : v < 0 ∨ 16 < v
      · refine XL.up (pc' := 657) (fun _ _ k => x_tsOut dL_law_32 w rfl k) ?_
        exact nxt M h.up
      · rcases (show v = 0 ∨ v = 1 ∨ v = 2 ∨ v = 3 ∨ v = 4 ∨ v = 5 ∨ v = 6 ∨ v = 7 ∨ v = 8 ∨ v = 9 ∨ v = 10 ∨ v = 11 ∨ v = 12 ∨ v = 13 ∨ v = 14 ∨ v = 15 ∨ v = 16 by omega) with rfl | rfl | rfl | rfl | rfl | rfl | rfl | rfl | rfl | rfl | rfl | rfl | rfl | rfl | rfl | rfl | rfl
        · refine XL.up (pc' := 116) (fun _ _ k => x_tsIn (x := 0) (i := 0) dL_law_32 (by omega) (by decide) rfl rfl k) ?_
          exact law_case0 hTop hM hq h0 h1 hq1 hK (both_feed hTop hM (by decide) hn h) nxt
        · refine XL.up (pc' := 139) (fun _ _ k => x_tsIn (x := 1) (i := 1) dL_law_32 (by omega) (by decide) rfl rfl k) ?_
          exact law_case1 hTop hM hq h0 h1 hq1 hK (both_program hTop hM (by decide) hn h) nxt
        · refine XL.up (pc' := 162) (fun _ _ k => x_tsIn (x := 2) (i := 2) dL_law_32 (by omega) (by decide) rfl rfl k) ?_
          exact law_case2 hTop hM hq h0 h1 hq1 hK (both_cost hTop hM (by decide) hn h) nxt
        · refine XL.up (pc' := 185) (fun _ _ k => x_tsIn (x := 3) (i := 3) dL_law_32 (by omega) (by decide) rfl rfl k) ?_
          exact law_case3 hTop hM hq h0 h1 hq1 hK (both_begin hTop hM hSr (by decide) hn h) nxt
        · refine XL.up (pc' := 228) (fun _ _ k => x_tsIn (x := 4) (i := 4) dL_law_32 (by omega) (by decide) rfl rfl k) ?_
          exact law_case4 hTop hM hq h0 h1 hq1 hK (both_go hTop hM hSr (by decide) hn h) nxt
        · refine XL.up (pc' := 261) (fun _ _ k => x_tsIn (x := 5) (i := 5) dL_law_32 (by omega) (by decide) rfl rfl k) ?_
          exact law_case5 hTop hM hq h0 h1 hq1 hK (both_all hTop hM hSr (by decide) hn h) nxt
        · refine XL.up (pc' := 294) (fun _ _ k => x_tsIn (x := 6) (i := 6) dL_law_32 (by omega) (by decide) rfl rfl k) ?_
          exact law_case6 hTop hM hq h0 h1 hq1 hK (both_of hTop hM hSr (by decide) hn h) nxt
        · refine XL.up (pc' := 327) (fun _ _ k => x_tsIn (x := 7) (i := 7) dL_law_32 (by omega) (by decide) rfl rfl k) ?_
          exact law_case7 hTop hM hq h0 h1 hq1 hK (both_answer hTop hM (by decide) hn h) nxt
        · refine XL.up (pc' := 370) (fun _ _ k => x_tsIn (x := 8) (i := 8) dL_law_32 (by omega) (by decide) rfl rfl k) ?_
          exact law_case8 hTop hM hq h0 h1 hq1 hK (both_open hTop hM hSr (by decide) hn (hq _) h) nxt
        · refine XL.up (pc' := 413) (fun _ _ k => x_tsIn (x := 9) (i := 9) dL_law_32 (by omega) (by decide) rfl rfl k) ?_
          exact law_case9 hTop hM hq h0 h1 hq1 hK (both_next hTop hM hSr (by decide) hn h) nxt
        · refine XL.up (pc' := 436) (fun _ _ k => x_tsIn (x := 10) (i := 10) dL_law_32 (by omega) (by decide) rfl rfl k) ?_
          exact law_case10 hTop hM hq h0 h1 hq1 hK (both_ordered hTop hM (by decide) hn h) nxt
        · refine XL.up (pc' := 469) (fun _ _ k => x_tsIn (x := 11) (i := 11) dL_law_32 (by omega) (by decide) rfl rfl k) ?_
          exact law_case11 hTop hM hq h0 h1 hq1 hK (both_common hTop hM (by decide) hn h) nxt
        · refine XL.up (pc' := 502) (fun _ _ k => x_tsIn (x := 12) (i := 12) dL_law_32 (by omega) (by decide) rfl rfl k) ?_
          exact law_case12 hTop hM hq h0 h1 hq1 hK (both_unlike hTop hM (by decide) hn h) nxt
        · refine XL.up (pc' := 525) (fun _ _ k => x_tsIn (x := 13) (i := 13) dL_law_32 (by omega) (by decide) rfl rfl k) ?_
          exact law_case13 hTop hM hq h0 h1 hq1 hK (both_turn hTop hM (by decide) hn h) nxt
        · refine XL.up (pc' := 558) (fun _ _ k => x_tsIn (x := 14) (i := 14) dL_law_32 (by omega) (by decide) rfl rfl k) ?_
          exact law_case14 hTop hM hq h0 h1 hq1 hK (both_copy hTop hM hSr (by decide) hn h) nxt
        · refine XL.up (pc' := 591) (fun _ _ k => x_tsIn (x := 15) (i := 15) dL_law_32 (by omega) (by decide) rfl rfl k) ?_
          exact law_case15 hTop hM hq h0 h1 hq1 hK (both_would hTop hM hSr hTh (by decide) hn h) nxt
        · refine XL.up (pc' := 634) (fun _ _ k => x_tsIn (x := 16) (i := 16) dL_law_32 (by omega) (by decide) rfl rfl k) ?_
          exact law_case16 hTop hM hq h0 h1 hq1 hK (both_count hTop hM (by decide) hn h) nxt
end LAWLOOP
