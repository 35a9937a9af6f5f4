/-! the law feeds the text -/
def sgc (sg : Int) : Int := if sg = 0 then 61 else if sg = 1 then 60 else if sg = 2 then 62 else 35
abbrev LA (c : Nm) (sg : Int) : List (Option ZV) := [some (zr 1), some (zr 2), none, some (zi (nmP c)), some (zi (nmQ c)), some (zr 2230), some (zi (nmU c)), some (zi (nmV c)), some (zi sg), none, none, none, none, none, none, none, none, none, none, none, none, none, none, none]
set_option maxHeartbeats 4000000 in
theorem law_text {q : Nat × (Nat → Int)} {d : Nat} {K M : ZMem} {c : Nm} {sg : Int} (hTop : TopAt K 2) (hd : 7 ≤ d) (hq : ∀ j, inR (q.2 j)) (hq1 : q.1 ≤ 260) (hA5 : mS K 2230 = (1, 3)) (hB : NmB c) (hsg : (0 ≤ sg ∧ sg ≤ 3) ∧ nmS c = sgc sg) (h0 : Ta K M [] 0) (ham : ∀ j, j < 3 → mI M 2230 j = nmL c j) (k : ∀ M', Ta K M' (txt c) 60 → Fr (fun q => q = 3 ∨ q = 4) M M' → XL q (d + 1) 418 (LA c sg) [] M') : XL q (d + 1) 97 (LA c sg) [] M := by
  obtain ⟨b1, b2, b3, b4, b5⟩ := id hB
  have F0 : Fr (fun q => q = 3 ∨ q = 4) M M := Fr.refl
  refine BL_97 _ _ _ _ _ hq hq1 h0.1 hTop hA5 (fdd hTop (by omega) h0 (by decide) (by decide) fun y M1 y0 h1 F1 => ⟨h1.1, fun c2 => absurd c2 (by omega), fun _ => ?_⟩)
  replace F1 := F0.trans F1
  refine BL_106 _ _ _ _ _ hq hq1 h1.1 hTop hA5 (fdd hTop (by omega) h1 (by decide) (by decide) fun y M2 y0 h2 F2 => ⟨h2.1, fun c2 => absurd c2 (by omega), fun _ => ?_⟩)
  replace F2 := F1.trans F2
  refine BL_115 _ _ _ _ _ hq hq1 h2.1 hTop hA5 (nmm hTop (by omega) h2 (by decide) (by omega) fun M3 h3 F3 => ⟨h3.1, fun c2 => absurd c2 (by decide), fun _ => ?_⟩)
  replace F3 := F2.trans F3
  refine BL_123 _ _ _ _ _ hq hq1 h3.1 hTop hA5 (fdd hTop (by omega) h3 (by decide) (by decide) fun y M4 y0 h4 F4 => ⟨h4.1, fun c2 => absurd c2 (by omega), fun _ => ?_⟩)
  replace F4 := F3.trans F4
  refine BL_132 _ _ _ _ _ hq hq1 h4.1 hTop hA5 (nmm hTop (by omega) h4 (by decide) (by omega) fun M5 h5 F5 => ⟨h5.1, fun c2 => absurd c2 (by decide), fun _ => ?_⟩)
  replace F5 := F4.trans F5
  refine BL_141 _ _ _ _ _ hq hq1 h5.1 hTop hA5 (fdd hTop (by omega) h5 (by decide) (by decide) fun y M6 y0 h6 F6 => ⟨h6.1, fun c2 => absurd c2 (by omega), fun _ => ?_⟩)
  replace F6 := F5.trans F6
  refine BL_150 _ _ _ _ _ hq hq1 h6.1 hTop hA5 (fdd hTop (by omega) h6 (by decide) (by decide) fun y M7 y0 h7 F7 => ⟨h7.1, fun c2 => absurd c2 (by omega), fun _ => ?_⟩)
  replace F7 := F6.trans F7
  refine BL_159 _ _ _ _ _ hq hq1 h7.1 hTop hA5 (fdd hTop (by omega) h7 (by decide) (by decide) fun y M8 y0 h8 F8 => ⟨h8.1, fun c2 => absurd c2 (by omega), fun _ => ?_⟩)
  replace F8 := F7.trans F8
  refine BL_168 _ _ _ _ _ hq hq1 h8.1 hTop hA5 (fdd hTop (by omega) h8 (by decide) (by decide) fun y M9 y0 h9 F9 => ⟨h9.1, fun _ => ?_, fun c2 => absurd y0 c2⟩)
  replace F9 := F8.trans F9
  refine BL_179 _ _ _ _ _ hq hq1 h9.1 hTop hA5 ?_
  have n0 := b5 0
  have m0 : mI M9 2230 (0 : Int).toNat = nmL c 0 := (F9.i (by decide) 0).trans (ham 0 (by decide))
  refine BL_182 _ _ _ _ _ 0 hq hq1 h9.1 hTop hA5 ⟨fun c2 => absurd c2 (by decide), fun _ => ⟨by decide, by decide, ?_⟩⟩
  rw [m0]
  refine nmm hTop (by omega) h9 (by decide) (by omega) fun M10 h10 F10 => ⟨h10.1, fun c2 => absurd c2 (by decide), fun _ => ?_⟩
  replace F10 := F9.trans F10
  refine BL_200 _ _ _ _ _ 0 hq hq1 h10.1 hTop hA5 ⟨fun c2 => absurd c2 (by decide), fun _ => fdd hTop (by omega) h10 (by decide) (by decide) fun y M11 y0 h11 F11 => ⟨h11.1, fun _ => ⟨⟨by decide, by decide⟩, ?_⟩, fun c2 => absurd (by omega) c2⟩⟩
  replace F11 := F10.trans F11
  have n1 := b5 1
  have m1 : mI M11 2230 ((0 + 1) : Int).toNat = nmL c 1 := (F11.i (by decide) 1).trans (ham 1 (by decide))
  refine BL_182 _ _ _ _ _ (0 + 1) hq hq1 h11.1 hTop hA5 ⟨fun c2 => absurd c2 (by decide), fun _ => ⟨by decide, by decide, ?_⟩⟩
  rw [m1]
  refine nmm hTop (by omega) h11 (by decide) (by omega) fun M12 h12 F12 => ⟨h12.1, fun c2 => absurd c2 (by decide), fun _ => ?_⟩
  replace F12 := F11.trans F12
  refine BL_200 _ _ _ _ _ (0 + 1) hq hq1 h12.1 hTop hA5 ⟨fun c2 => absurd c2 (by decide), fun _ => fdd hTop (by omega) h12 (by decide) (by decide) fun y M13 y0 h13 F13 => ⟨h13.1, fun _ => ⟨⟨by decide, by decide⟩, ?_⟩, fun c2 => absurd (by omega) c2⟩⟩
  replace F13 := F12.trans F13
  have n2 := b5 2
  have m2 : mI M13 2230 ((0 + 1 + 1) : Int).toNat = nmL c 2 := (F13.i (by decide) 2).trans (ham 2 (by decide))
  refine BL_182 _ _ _ _ _ (0 + 1 + 1) hq hq1 h13.1 hTop hA5 ⟨fun c2 => absurd c2 (by decide), fun _ => ⟨by decide, by decide, ?_⟩⟩
  rw [m2]
  refine nmm hTop (by omega) h13 (by decide) (by omega) fun M14 h14 F14 => ⟨h14.1, fun c2 => absurd c2 (by decide), fun _ => ?_⟩
  replace F14 := F13.trans F14
  refine BL_200 _ _ _ _ _ (0 + 1 + 1) hq hq1 h14.1 hTop hA5 ⟨fun _ => ⟨⟨by decide, by decide⟩, ?_⟩, fun c2 => absurd (by decide) c2⟩
  refine BL_182 _ _ _ _ _ (0 + 1 + 1 + 1) hq hq1 h14.1 hTop hA5 ⟨fun _ => ?_, fun c2 => absurd (by decide) c2⟩
  refine BL_224 _ _ _ _ _ hq hq1 h14.1 hTop hA5 (fdd hTop (by omega) h14 (by decide) (by decide) fun y M15 y0 h15 F15 => ⟨h15.1, fun c2 => absurd c2 (by omega), fun _ => ?_⟩)
  replace F15 := F14.trans F15
  refine BL_233 _ _ _ _ _ hq hq1 h15.1 hTop hA5 (fdd hTop (by omega) h15 (by decide) (by decide) fun y M16 y0 h16 F16 => ⟨h16.1, fun c2 => absurd c2 (by omega), fun _ => ?_⟩)
  replace F16 := F15.trans F16
  refine BL_242 _ _ _ _ _ hq hq1 h16.1 hTop hA5 (fdd hTop (by omega) h16 (by decide) (by decide) fun y M17 y0 h17 F17 => ⟨h17.1, fun c2 => absurd c2 (by omega), fun _ => ?_⟩)
  replace F17 := F16.trans F17
  refine BL_251 _ _ _ _ _ hq hq1 h17.1 hTop hA5 (fdd hTop (by omega) h17 (by decide) (by decide) fun y M18 y0 h18 F18 => ⟨h18.1, fun c2 => absurd c2 (by omega), fun _ => ?_⟩)
  replace F18 := F17.trans F18
  refine BL_260 _ _ _ _ _ hq hq1 h18.1 hTop hA5 (fdd hTop (by omega) h18 (by decide) (by decide) fun y M19 y0 h19 F19 => ⟨h19.1, fun c2 => absurd c2 (by omega), fun _ => ?_⟩)
  replace F19 := F18.trans F19
  refine BL_269 _ _ _ _ _ hq hq1 h19.1 hTop hA5 (fdd hTop (by omega) h19 (by decide) (by decide) fun y M20 y0 h20 F20 => ⟨h20.1, fun c2 => absurd c2 (by omega), fun _ => ?_⟩)
  replace F20 := F19.trans F20
  refine BL_278 _ _ _ _ _ hq hq1 h20.1 hTop hA5 (fdd hTop (by omega) h20 (by decide) (by decide) fun y M21 y0 h21 F21 => ⟨h21.1, fun c2 => absurd c2 (by omega), fun _ => ?_⟩)
  replace F21 := F20.trans F21
  refine BL_287 _ _ _ _ _ hq hq1 h21.1 hTop hA5 (fdd hTop (by omega) h21 (by decide) (by decide) fun y M22 y0 h22 F22 => ⟨h22.1, fun c2 => absurd c2 (by omega), fun _ => ?_⟩)
  replace F22 := F21.trans F22
  refine BL_296 _ _ _ _ _ hq hq1 h22.1 hTop hA5 (fdd hTop (by omega) h22 (by decide) (by decide) fun y M23 y0 h23 F23 => ⟨h23.1, fun c2 => absurd c2 (by omega), fun _ => ?_⟩)
  replace F23 := F22.trans F23
  refine BL_305 _ _ _ _ _ hq hq1 h23.1 hTop hA5 (fdd hTop (by omega) h23 (by decide) (by decide) fun y M24 y0 h24 F24 => ⟨h24.1, fun c2 => absurd c2 (by omega), fun _ => ?_⟩)
  replace F24 := F23.trans F24
  refine BL_314 _ _ _ _ _ hq hq1 h24.1 hTop hA5 (fdd hTop (by omega) h24 (by decide) (by decide) fun y M25 y0 h25 F25 => ⟨h25.1, fun c2 => absurd c2 (by omega), fun _ => ?_⟩)
  replace F25 := F24.trans F25
  refine BL_323 _ _ _ _ _ hq hq1 h25.1 hTop hA5 (fdd hTop (by omega) h25 (by decide) (by decide) fun y M26 y0 h26 F26 => ⟨h26.1, fun c2 => absurd c2 (by omega), fun _ => ?_⟩)
  replace F26 := F25.trans F26
  refine BL_332 _ _ _ _ _ hq hq1 h26.1 hTop hA5 (fdd hTop (by omega) h26 (by decide) (by decide) fun y M27 y0 h27 F27 => ⟨h27.1, fun c2 => absurd c2 (by omega), fun _ => ?_⟩)
  replace F27 := F26.trans F27
  refine BL_341 _ _ _ _ _ hq hq1 h27.1 hTop hA5 (nmm hTop (by omega) h27 (by decide) (by omega) fun M28 h28 F28 => ⟨h28.1, fun c2 => absurd c2 (by decide), fun _ => ?_⟩)
  replace F28 := F27.trans F28
  have hs : Ci d q9_feed [zr 2, zi (sgc sg)] M28 (fun x M' => KW K M' ∧ ((x ≤ 0 → False) ∧ (¬ x ≤ 0 → XL q (d + 1) 391 (LA c sg) [] M'))) := by
    refine fdd hTop (by omega) h28 (by decide) (by unfold sgc; split; decide; split; decide; split <;> decide) fun y M29 y0 h29 F29 => ⟨h29.1, fun c2 => absurd c2 (by omega), fun _ => ?_⟩
    replace F29 := F28.trans F29
    refine BL_391 _ _ _ _ _ hq hq1 h29.1 hTop hA5 (fdd hTop (by omega) h29 (by decide) (by decide) fun y M30 y0 h30 F30 => ⟨h30.1, fun c2 => absurd c2 (by omega), fun _ => ?_⟩)
    replace F30 := F29.trans F30
    refine BL_400 _ _ _ _ _ hq hq1 h30.1 hTop hA5 (fdd hTop (by omega) h30 (by decide) (by decide) fun y M31 y0 h31 F31 => ⟨h31.1, fun c2 => absurd c2 (by omega), fun _ => ?_⟩)
    replace F31 := F30.trans F31
    refine BL_409 _ _ _ _ _ hq hq1 h31.1 hTop hA5 (nmm hTop (by omega) h31 (by decide) (by omega) fun M32 h32 F32 => ⟨h32.1, fun c2 => absurd c2 (by decide), fun _ => ?_⟩)
    replace F32 := F31.trans F32
    refine k M32 ?_ F32
    have e : ((((((((((((((((((((((((((((((((([] ++ [97]) ++ [63]) ++ nt (nmP c)) ++ [44]) ++ nt (nmQ c)) ++ [59]) ++ [98]) ++ [63]) ++ [123]) ++ nt (nmL c 0)) ++ [44]) ++ nt (nmL c 1)) ++ [44]) ++ nt (nmL c 2)) ++ [125]) ++ [59]) ++ [99]) ++ [63]) ++ [45]) ++ [50]) ++ [44]) ++ [97]) ++ [59]) ++ [97]) ++ [43]) ++ [98]) ++ [42]) ++ nt (nmU c)) ++ [sgc sg]) ++ [99]) ++ [43]) ++ nt (nmV c)) : List Int) = txt c := by
      simp only [txt, List.nil_append, List.append_assoc, List.cons_append, List.append_nil, show nt (-2) = [45, 50] from rfl, hsg.2]
    rw [e] at h32
    exact ⟨h32.1, h32.2.1, h32.2.2.1, Nat.le_trans h32.2.2.2 (by decide)⟩
  refine BL_350 _ _ _ _ _ hq hq1 h28.1 hTop hA5 ⟨fun s0 => ⟨fun s1 => ⟨fun s2 => ?_, fun s2 => ?_⟩, fun s1 => ?_⟩, fun s0 => ?_⟩
  · have e : sgc sg = 35 := by unfold sgc; rw [if_neg s0, if_neg s1, if_neg s2]
    rw [e] at hs; exact hs
  · have e : sgc sg = 62 := by unfold sgc; rw [if_neg s0, if_neg s1, if_pos (by omega)]
    rw [e] at hs; exact hs
  · have e : sgc sg = 60 := by unfold sgc; rw [if_neg s0, if_pos (by omega)]
    rw [e] at hs; exact hs
  · have e : sgc sg = 61 := by unfold sgc; rw [if_pos (by omega)]
    rw [e] at hs; exact hs
