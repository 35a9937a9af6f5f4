-- ===== PART A: goes FIRST, ahead of the names: the tables' words, and 'selects' of the private methods out of them =====
/-- a private method of a class that the tables say can be made, by its rows of tables_1 -/
def lw_okq (q : MethodName × Nat) : Prop := (q.1.cls ≠ "java/lang/invoke/MethodHandle" ∧ q.1.cls ≠ "java/lang/invoke/VarHandle") ∧ Cond.instantiable q.1.cls q.2 ∈ tables_1 ∧ Cond.privateMethod q.1 ∈ tables_1 ∧ Cond.instanceMethod q.1 ∈ tables_1
theorem lw_p0 : lw_okq (⟨"TrailSearch", "programAt", "(I)LTrailSearch$Program;"⟩, 5) := ⟨⟨by decide +kernel, by decide +kernel⟩, List.mem_of_getElem? (i := 14) (by decide +kernel), List.mem_of_getElem? (i := 330) (by decide +kernel), List.mem_of_getElem? (i := 331) (by decide +kernel)⟩
theorem lw_p1 : lw_okq (⟨"TrailSearch$Reader", "setBefore", "(I)V"⟩, 8) := ⟨⟨by decide +kernel, by decide +kernel⟩, List.mem_of_getElem? (i := 38) (by decide +kernel), List.mem_of_getElem? (i := 346) (by decide +kernel), List.mem_of_getElem? (i := 347) (by decide +kernel)⟩
theorem lw_p2 : lw_okq (⟨"TrailSearch$Reader", "readStatement", "()Z"⟩, 8) := ⟨⟨by decide +kernel, by decide +kernel⟩, List.mem_of_getElem? (i := 38) (by decide +kernel), List.mem_of_getElem? (i := 350) (by decide +kernel), List.mem_of_getElem? (i := 351) (by decide +kernel)⟩
theorem lw_p3 : lw_okq (⟨"TrailSearch$Reader", "addStatement", "(II)I"⟩, 8) := ⟨⟨by decide +kernel, by decide +kernel⟩, List.mem_of_getElem? (i := 38) (by decide +kernel), List.mem_of_getElem? (i := 358) (by decide +kernel), List.mem_of_getElem? (i := 359) (by decide +kernel)⟩
theorem lw_p4 : lw_okq (⟨"TrailSearch$Reader", "openBracket", "(I)Z"⟩, 8) := ⟨⟨by decide +kernel, by decide +kernel⟩, List.mem_of_getElem? (i := 38) (by decide +kernel), List.mem_of_getElem? (i := 378) (by decide +kernel), List.mem_of_getElem? (i := 379) (by decide +kernel)⟩
theorem lw_p5 : lw_okq (⟨"TrailSearch$Reader", "readFormula", "(LTrailSearch$Formulas;)Z"⟩, 8) := ⟨⟨by decide +kernel, by decide +kernel⟩, List.mem_of_getElem? (i := 38) (by decide +kernel), List.mem_of_getElem? (i := 389) (by decide +kernel), List.mem_of_getElem? (i := 390) (by decide +kernel)⟩
theorem lw_p6 : lw_okq (⟨"TrailSearch$Reader", "readFactor", "(LTrailSearch$Formulas;I)Z"⟩, 8) := ⟨⟨by decide +kernel, by decide +kernel⟩, List.mem_of_getElem? (i := 38) (by decide +kernel), List.mem_of_getElem? (i := 397) (by decide +kernel), List.mem_of_getElem? (i := 398) (by decide +kernel)⟩
theorem lw_p7 : lw_okq (⟨"TrailSearch$Reader", "readChoose", "(I)Z"⟩, 8) := ⟨⟨by decide +kernel, by decide +kernel⟩, List.mem_of_getElem? (i := 38) (by decide +kernel), List.mem_of_getElem? (i := 411) (by decide +kernel), List.mem_of_getElem? (i := 412) (by decide +kernel)⟩
theorem lw_p8 : lw_okq (⟨"TrailSearch$Reader", "readSign", "(I)Z"⟩, 8) := ⟨⟨by decide +kernel, by decide +kernel⟩, List.mem_of_getElem? (i := 38) (by decide +kernel), List.mem_of_getElem? (i := 415) (by decide +kernel), List.mem_of_getElem? (i := 416) (by decide +kernel)⟩
theorem lw_p9 : lw_okq (⟨"TrailSearch$Reader", "readTest", "()Z"⟩, 8) := ⟨⟨by decide +kernel, by decide +kernel⟩, List.mem_of_getElem? (i := 38) (by decide +kernel), List.mem_of_getElem? (i := 419) (by decide +kernel), List.mem_of_getElem? (i := 420) (by decide +kernel)⟩
theorem lw_p10 : lw_okq (⟨"TrailSearch$Reader", "readBehind", "()Z"⟩, 8) := ⟨⟨by decide +kernel, by decide +kernel⟩, List.mem_of_getElem? (i := 38) (by decide +kernel), List.mem_of_getElem? (i := 427) (by decide +kernel), List.mem_of_getElem? (i := 428) (by decide +kernel)⟩
theorem lw_p11 : lw_okq (⟨"TrailSearch", "searchAt", "(I)LTrailSearch$Search;"⟩, 5) := ⟨⟨by decide +kernel, by decide +kernel⟩, List.mem_of_getElem? (i := 14) (by decide +kernel), List.mem_of_getElem? (i := 464) (by decide +kernel), List.mem_of_getElem? (i := 465) (by decide +kernel)⟩
theorem lw_p12 : lw_okq (⟨"TrailSearch$Search", "startWay", "()V"⟩, 14) := ⟨⟨by decide +kernel, by decide +kernel⟩, List.mem_of_getElem? (i := 143) (by decide +kernel), List.mem_of_getElem? (i := 473) (by decide +kernel), List.mem_of_getElem? (i := 474) (by decide +kernel)⟩
theorem lw_p13 : lw_okq (⟨"TrailSearch$Search", "currentWay", "()LTrailSearch$Way;"⟩, 14) := ⟨⟨by decide +kernel, by decide +kernel⟩, List.mem_of_getElem? (i := 143) (by decide +kernel), List.mem_of_getElem? (i := 477) (by decide +kernel), List.mem_of_getElem? (i := 478) (by decide +kernel)⟩
theorem lw_p14 : lw_okq (⟨"TrailSearch$Search", "goBack", "(LTrailSearch$Way;)I"⟩, 14) := ⟨⟨by decide +kernel, by decide +kernel⟩, List.mem_of_getElem? (i := 143) (by decide +kernel), List.mem_of_getElem? (i := 498) (by decide +kernel), List.mem_of_getElem? (i := 499) (by decide +kernel)⟩
theorem lw_p15 : lw_okq (⟨"TrailSearch$Search", "goBackInNot", "()I"⟩, 14) := ⟨⟨by decide +kernel, by decide +kernel⟩, List.mem_of_getElem? (i := 143) (by decide +kernel), List.mem_of_getElem? (i := 502) (by decide +kernel), List.mem_of_getElem? (i := 503) (by decide +kernel)⟩
def lw_privs_1 : List (MethodName × Nat) := [(⟨"TrailSearch", "programAt", "(I)LTrailSearch$Program;"⟩, 5), (⟨"TrailSearch$Reader", "setBefore", "(I)V"⟩, 8), (⟨"TrailSearch$Reader", "readStatement", "()Z"⟩, 8), (⟨"TrailSearch$Reader", "addStatement", "(II)I"⟩, 8), (⟨"TrailSearch$Reader", "openBracket", "(I)Z"⟩, 8), (⟨"TrailSearch$Reader", "readFormula", "(LTrailSearch$Formulas;)Z"⟩, 8), (⟨"TrailSearch$Reader", "readFactor", "(LTrailSearch$Formulas;I)Z"⟩, 8), (⟨"TrailSearch$Reader", "readChoose", "(I)Z"⟩, 8), (⟨"TrailSearch$Reader", "readSign", "(I)Z"⟩, 8), (⟨"TrailSearch$Reader", "readTest", "()Z"⟩, 8), (⟨"TrailSearch$Reader", "readBehind", "()Z"⟩, 8), (⟨"TrailSearch", "searchAt", "(I)LTrailSearch$Search;"⟩, 5), (⟨"TrailSearch$Search", "startWay", "()V"⟩, 14), (⟨"TrailSearch$Search", "currentWay", "()LTrailSearch$Way;"⟩, 14), (⟨"TrailSearch$Search", "goBack", "(LTrailSearch$Way;)I"⟩, 14), (⟨"TrailSearch$Search", "goBackInNot", "()I"⟩, 14)]
theorem lw_r1 : ∀ q ∈ lw_privs_1, lw_okq q := List.forall_mem_cons.mpr ⟨lw_p0, List.forall_mem_cons.mpr ⟨lw_p1, List.forall_mem_cons.mpr ⟨lw_p2, List.forall_mem_cons.mpr ⟨lw_p3, List.forall_mem_cons.mpr ⟨lw_p4, List.forall_mem_cons.mpr ⟨lw_p5, List.forall_mem_cons.mpr ⟨lw_p6, List.forall_mem_cons.mpr ⟨lw_p7, List.forall_mem_cons.mpr ⟨lw_p8, List.forall_mem_cons.mpr ⟨lw_p9, List.forall_mem_cons.mpr ⟨lw_p10, List.forall_mem_cons.mpr ⟨lw_p11, List.forall_mem_cons.mpr ⟨lw_p12, List.forall_mem_cons.mpr ⟨lw_p13, List.forall_mem_cons.mpr ⟨lw_p14, List.forall_mem_cons.mpr ⟨lw_p15, fun _ h => absurd h List.not_mem_nil⟩⟩⟩⟩⟩⟩⟩⟩⟩⟩⟩⟩⟩⟩⟩⟩
theorem lw_p16 : lw_okq (⟨"TrailSearch$Search", "baseOfNot", "()I"⟩, 14) := ⟨⟨by decide +kernel, by decide +kernel⟩, List.mem_of_getElem? (i := 143) (by decide +kernel), List.mem_of_getElem? (i := 506) (by decide +kernel), List.mem_of_getElem? (i := 507) (by decide +kernel)⟩
theorem lw_p17 : lw_okq (⟨"TrailSearch$Search", "spend", "()Z"⟩, 14) := ⟨⟨by decide +kernel, by decide +kernel⟩, List.mem_of_getElem? (i := 143) (by decide +kernel), List.mem_of_getElem? (i := 514) (by decide +kernel), List.mem_of_getElem? (i := 515) (by decide +kernel)⟩
theorem lw_p18 : lw_okq (⟨"TrailSearch$Search", "tally", "(II)V"⟩, 14) := ⟨⟨by decide +kernel, by decide +kernel⟩, List.mem_of_getElem? (i := 143) (by decide +kernel), List.mem_of_getElem? (i := 518) (by decide +kernel), List.mem_of_getElem? (i := 519) (by decide +kernel)⟩
theorem lw_p19 : lw_okq (⟨"TrailSearch$Search", "take", "(LTrailSearch$Points;I)V"⟩, 14) := ⟨⟨by decide +kernel, by decide +kernel⟩, List.mem_of_getElem? (i := 143) (by decide +kernel), List.mem_of_getElem? (i := 522) (by decide +kernel), List.mem_of_getElem? (i := 523) (by decide +kernel)⟩
theorem lw_p20 : lw_okq (⟨"TrailSearch$Search", "goDeeper", "()I"⟩, 14) := ⟨⟨by decide +kernel, by decide +kernel⟩, List.mem_of_getElem? (i := 143) (by decide +kernel), List.mem_of_getElem? (i := 571) (by decide +kernel), List.mem_of_getElem? (i := 572) (by decide +kernel)⟩
theorem lw_p21 : lw_okq (⟨"TrailSearch$Search", "finish", "(I)I"⟩, 14) := ⟨⟨by decide +kernel, by decide +kernel⟩, List.mem_of_getElem? (i := 143) (by decide +kernel), List.mem_of_getElem? (i := 575) (by decide +kernel), List.mem_of_getElem? (i := 576) (by decide +kernel)⟩
theorem lw_p22 : lw_okq (⟨"TrailSearch$Search", "endPart", "(LTrailSearch$Way;)I"⟩, 14) := ⟨⟨by decide +kernel, by decide +kernel⟩, List.mem_of_getElem? (i := 143) (by decide +kernel), List.mem_of_getElem? (i := 595) (by decide +kernel), List.mem_of_getElem? (i := 596) (by decide +kernel)⟩
theorem lw_p23 : lw_okq (⟨"TrailSearch$Search", "through", "(LTrailSearch$Way;)I"⟩, 14) := ⟨⟨by decide +kernel, by decide +kernel⟩, List.mem_of_getElem? (i := 143) (by decide +kernel), List.mem_of_getElem? (i := 599) (by decide +kernel), List.mem_of_getElem? (i := 600) (by decide +kernel)⟩
theorem lw_p24 : lw_okq (⟨"TrailSearch$Formulas", "endOf", "(I)I"⟩, 5) := ⟨⟨by decide +kernel, by decide +kernel⟩, List.mem_of_getElem? (i := 50) (by decide +kernel), List.mem_of_getElem? (i := 612) (by decide +kernel), List.mem_of_getElem? (i := 613) (by decide +kernel)⟩
theorem lw_p25 : lw_okq (⟨"TrailSearch$Formulas", "factorWorth", "(I[I)I"⟩, 5) := ⟨⟨by decide +kernel, by decide +kernel⟩, List.mem_of_getElem? (i := 50) (by decide +kernel), List.mem_of_getElem? (i := 616) (by decide +kernel), List.mem_of_getElem? (i := 617) (by decide +kernel)⟩
theorem lw_p26 : lw_okq (⟨"TrailSearch$Formulas", "joinAt", "(I)I"⟩, 5) := ⟨⟨by decide +kernel, by decide +kernel⟩, List.mem_of_getElem? (i := 50) (by decide +kernel), List.mem_of_getElem? (i := 620) (by decide +kernel), List.mem_of_getElem? (i := 621) (by decide +kernel)⟩
theorem lw_p27 : lw_okq (⟨"TrailSearch$Answers", "setField", "(III)V"⟩, 2) := ⟨⟨by decide +kernel, by decide +kernel⟩, List.mem_of_getElem? (i := 151) (by decide +kernel), List.mem_of_getElem? (i := 636) (by decide +kernel), List.mem_of_getElem? (i := 637) (by decide +kernel)⟩
theorem lw_p28 : lw_okq (⟨"TrailSearch$Search", "drop", "(LTrailSearch$Way;I)V"⟩, 14) := ⟨⟨by decide +kernel, by decide +kernel⟩, List.mem_of_getElem? (i := 143) (by decide +kernel), List.mem_of_getElem? (i := 652) (by decide +kernel), List.mem_of_getElem? (i := 653) (by decide +kernel)⟩
theorem lw_p29 : lw_okq (⟨"TrailSearch$Search", "beginStatement", "(LTrailSearch$Way;)I"⟩, 14) := ⟨⟨by decide +kernel, by decide +kernel⟩, List.mem_of_getElem? (i := 143) (by decide +kernel), List.mem_of_getElem? (i := 666) (by decide +kernel), List.mem_of_getElem? (i := 667) (by decide +kernel)⟩
theorem lw_p30 : lw_okq (⟨"TrailSearch$Search", "assign", "(LTrailSearch$Way;I)I"⟩, 14) := ⟨⟨by decide +kernel, by decide +kernel⟩, List.mem_of_getElem? (i := 143) (by decide +kernel), List.mem_of_getElem? (i := 670) (by decide +kernel), List.mem_of_getElem? (i := 671) (by decide +kernel)⟩
theorem lw_p31 : lw_okq (⟨"TrailSearch$Search", "endWay", "()I"⟩, 14) := ⟨⟨by decide +kernel, by decide +kernel⟩, List.mem_of_getElem? (i := 143) (by decide +kernel), List.mem_of_getElem? (i := 680) (by decide +kernel), List.mem_of_getElem? (i := 681) (by decide +kernel)⟩
def lw_privs_2 : List (MethodName × Nat) := [(⟨"TrailSearch$Search", "baseOfNot", "()I"⟩, 14), (⟨"TrailSearch$Search", "spend", "()Z"⟩, 14), (⟨"TrailSearch$Search", "tally", "(II)V"⟩, 14), (⟨"TrailSearch$Search", "take", "(LTrailSearch$Points;I)V"⟩, 14), (⟨"TrailSearch$Search", "goDeeper", "()I"⟩, 14), (⟨"TrailSearch$Search", "finish", "(I)I"⟩, 14), (⟨"TrailSearch$Search", "endPart", "(LTrailSearch$Way;)I"⟩, 14), (⟨"TrailSearch$Search", "through", "(LTrailSearch$Way;)I"⟩, 14), (⟨"TrailSearch$Formulas", "endOf", "(I)I"⟩, 5), (⟨"TrailSearch$Formulas", "factorWorth", "(I[I)I"⟩, 5), (⟨"TrailSearch$Formulas", "joinAt", "(I)I"⟩, 5), (⟨"TrailSearch$Answers", "setField", "(III)V"⟩, 2), (⟨"TrailSearch$Search", "drop", "(LTrailSearch$Way;I)V"⟩, 14), (⟨"TrailSearch$Search", "beginStatement", "(LTrailSearch$Way;)I"⟩, 14), (⟨"TrailSearch$Search", "assign", "(LTrailSearch$Way;I)I"⟩, 14), (⟨"TrailSearch$Search", "endWay", "()I"⟩, 14)]
theorem lw_r2 : ∀ q ∈ lw_privs_2, lw_okq q := List.forall_mem_cons.mpr ⟨lw_p16, List.forall_mem_cons.mpr ⟨lw_p17, List.forall_mem_cons.mpr ⟨lw_p18, List.forall_mem_cons.mpr ⟨lw_p19, List.forall_mem_cons.mpr ⟨lw_p20, List.forall_mem_cons.mpr ⟨lw_p21, List.forall_mem_cons.mpr ⟨lw_p22, List.forall_mem_cons.mpr ⟨lw_p23, List.forall_mem_cons.mpr ⟨lw_p24, List.forall_mem_cons.mpr ⟨lw_p25, List.forall_mem_cons.mpr ⟨lw_p26, List.forall_mem_cons.mpr ⟨lw_p27, List.forall_mem_cons.mpr ⟨lw_p28, List.forall_mem_cons.mpr ⟨lw_p29, List.forall_mem_cons.mpr ⟨lw_p30, List.forall_mem_cons.mpr ⟨lw_p31, fun _ h => absurd h List.not_mem_nil⟩⟩⟩⟩⟩⟩⟩⟩⟩⟩⟩⟩⟩⟩⟩⟩
theorem lw_p32 : lw_okq (⟨"TrailSearch$Search", "test", "(LTrailSearch$Way;I)I"⟩, 14) := ⟨⟨by decide +kernel, by decide +kernel⟩, List.mem_of_getElem? (i := 143) (by decide +kernel), List.mem_of_getElem? (i := 684) (by decide +kernel), List.mem_of_getElem? (i := 685) (by decide +kernel)⟩
theorem lw_p33 : lw_okq (⟨"TrailSearch$Search", "choose", "(LTrailSearch$Way;I)I"⟩, 14) := ⟨⟨by decide +kernel, by decide +kernel⟩, List.mem_of_getElem? (i := 143) (by decide +kernel), List.mem_of_getElem? (i := 691) (by decide +kernel), List.mem_of_getElem? (i := 692) (by decide +kernel)⟩
theorem lw_p34 : lw_okq (⟨"TrailSearch$Search", "prepareUpTo", "(LTrailSearch$Point;LTrailSearch$Way;I)I"⟩, 14) := ⟨⟨by decide +kernel, by decide +kernel⟩, List.mem_of_getElem? (i := 143) (by decide +kernel), List.mem_of_getElem? (i := 703) (by decide +kernel), List.mem_of_getElem? (i := 704) (by decide +kernel)⟩
theorem lw_p35 : lw_okq (⟨"TrailSearch$Search", "prepareAmong", "(LTrailSearch$Point;LTrailSearch$Way;I)I"⟩, 14) := ⟨⟨by decide +kernel, by decide +kernel⟩, List.mem_of_getElem? (i := 143) (by decide +kernel), List.mem_of_getElem? (i := 707) (by decide +kernel), List.mem_of_getElem? (i := 708) (by decide +kernel)⟩
theorem lw_p36 : lw_okq (⟨"TrailSearch$Search", "beginNot", "(LTrailSearch$Way;I)I"⟩, 14) := ⟨⟨by decide +kernel, by decide +kernel⟩, List.mem_of_getElem? (i := 143) (by decide +kernel), List.mem_of_getElem? (i := 714) (by decide +kernel), List.mem_of_getElem? (i := 715) (by decide +kernel)⟩
theorem lw_p37 : lw_okq (⟨"TrailSearch$Answers", "rankOf", "(I)I"⟩, 2) := ⟨⟨by decide +kernel, by decide +kernel⟩, List.mem_of_getElem? (i := 151) (by decide +kernel), List.mem_of_getElem? (i := 752) (by decide +kernel), List.mem_of_getElem? (i := 753) (by decide +kernel)⟩
theorem lw_p38 : lw_okq (⟨"TrailSearch$Answers", "hasLike", "(LTrailSearch$Answers;II)Z"⟩, 2) := ⟨⟨by decide +kernel, by decide +kernel⟩, List.mem_of_getElem? (i := 151) (by decide +kernel), List.mem_of_getElem? (i := 765) (by decide +kernel), List.mem_of_getElem? (i := 766) (by decide +kernel)⟩
theorem lw_p39 : lw_okq (⟨"TrailSearch$Answers", "alike", "(ILTrailSearch$Answers;I)Z"⟩, 2) := ⟨⟨by decide +kernel, by decide +kernel⟩, List.mem_of_getElem? (i := 151) (by decide +kernel), List.mem_of_getElem? (i := 769) (by decide +kernel), List.mem_of_getElem? (i := 770) (by decide +kernel)⟩
def lw_privs_3 : List (MethodName × Nat) := [(⟨"TrailSearch$Search", "test", "(LTrailSearch$Way;I)I"⟩, 14), (⟨"TrailSearch$Search", "choose", "(LTrailSearch$Way;I)I"⟩, 14), (⟨"TrailSearch$Search", "prepareUpTo", "(LTrailSearch$Point;LTrailSearch$Way;I)I"⟩, 14), (⟨"TrailSearch$Search", "prepareAmong", "(LTrailSearch$Point;LTrailSearch$Way;I)I"⟩, 14), (⟨"TrailSearch$Search", "beginNot", "(LTrailSearch$Way;I)I"⟩, 14), (⟨"TrailSearch$Answers", "rankOf", "(I)I"⟩, 2), (⟨"TrailSearch$Answers", "hasLike", "(LTrailSearch$Answers;II)Z"⟩, 2), (⟨"TrailSearch$Answers", "alike", "(ILTrailSearch$Answers;I)Z"⟩, 2)]
theorem lw_r3 : ∀ q ∈ lw_privs_3, lw_okq q := List.forall_mem_cons.mpr ⟨lw_p32, List.forall_mem_cons.mpr ⟨lw_p33, List.forall_mem_cons.mpr ⟨lw_p34, List.forall_mem_cons.mpr ⟨lw_p35, List.forall_mem_cons.mpr ⟨lw_p36, List.forall_mem_cons.mpr ⟨lw_p37, List.forall_mem_cons.mpr ⟨lw_p38, List.forall_mem_cons.mpr ⟨lw_p39, fun _ h => absurd h List.not_mem_nil⟩⟩⟩⟩⟩⟩⟩⟩
def lw_privs : List (MethodName × Nat) := lw_privs_1 ++ (lw_privs_2 ++ (lw_privs_3))
def lw_tbl : List Cond := k2_sels lw_privs ++ tables_1
theorem lw_privs_ok : ∀ q ∈ lw_privs, lw_okq q := by
  show ∀ q ∈ lw_privs_1 ++ (lw_privs_2 ++ (lw_privs_3)), lw_okq q
  exact List.forall_mem_append.mpr ⟨lw_r1, List.forall_mem_append.mpr ⟨lw_r2, lw_r3⟩⟩
-- ===== end of PART A; names =====
abbrev ZMeth : Type := MethodName × ByteArray × Nat × Option FieldType × String
theorem z_pl {big ws : List Cond} (ps : List Nat) (h : ws = ps.filterMap (fun i => big[i]?)) : ∀ w ∈ ws, w ∈ big := by
  intro w hw
  rw [h] at hw
  obtain ⟨i, -, hi⟩ := List.mem_filterMap.mp hw
  exact List.mem_of_getElem? hi
def RX0 : String := "TrailSearch$Answers"
def TX0 : u_T := fun k => match k with
  | 0 => ("TrailSearch$Answers", "fields", "[I", true)
  | _ => ("TrailSearch$Answers", "size", "I", false)
def tyX0 : Nat → FieldType := fun k => match k with
  | 0 => .array .int
  | _ => .int
abbrev wsX00 : List Cond := u_ws RX0 TX0 2
theorem nmX0 : ∀ a, a < 2 → ∀ b, b < 2 → a ≠ b → (TX0 a).2.1 ≠ (TX0 b).2.1 := by decide +kernel
theorem tyX0_ok : ∀ k, k < 2 → parseFieldDescriptor (TX0 k).2.2.1 = some (tyX0 k) := by decide +kernel
def RX1 : String := "TrailSearch$Formulas"
def TX1 : u_T := fun k => match k with
  | 0 => ("TrailSearch$Formulas", "joins", "[I", true)
  | 1 => ("TrailSearch$Formulas", "factors", "[I", true)
  | 2 => ("TrailSearch$Formulas", "begins", "[I", true)
  | 3 => ("TrailSearch$Formulas", "size", "I", false)
  | _ => ("TrailSearch$Formulas", "formulas", "I", false)
def tyX1 : Nat → FieldType := fun k => match k with
  | 0 => .array .int
  | 1 => .array .int
  | 2 => .array .int
  | 3 => .int
  | _ => .int
abbrev wsX10 : List Cond := u_ws RX1 TX1 5
theorem nmX1 : ∀ a, a < 5 → ∀ b, b < 5 → a ≠ b → (TX1 a).2.1 ≠ (TX1 b).2.1 := by decide +kernel
theorem tyX1_ok : ∀ k, k < 5 → parseFieldDescriptor (TX1 k).2.2.1 = some (tyX1 k) := by decide +kernel
def RX2 : String := "TrailSearch$Point"
def TX2 : u_T := fun k => match k with
  | 0 => ("TrailSearch$Point", "maker", "LTrailSearch$Way;", true)
  | 1 => ("TrailSearch$Point", "among", "[I", true)
  | 2 => ("TrailSearch$Point", "low", "I", false)
  | 3 => ("TrailSearch$Point", "choices", "I", false)
  | 4 => ("TrailSearch$Point", "taken", "I", false)
  | _ => ("TrailSearch$Point", "price", "I", false)
def tyX2 : Nat → FieldType := fun k => match k with
  | 0 => .object "TrailSearch$Way"
  | 1 => .array .int
  | 2 => .int
  | 3 => .int
  | 4 => .int
  | _ => .int
abbrev wsX20 : List Cond := u_ws RX2 TX2 6
theorem nmX2 : ∀ a, a < 6 → ∀ b, b < 6 → a ≠ b → (TX2 a).2.1 ≠ (TX2 b).2.1 := by decide +kernel
theorem tyX2_ok : ∀ k, k < 6 → parseFieldDescriptor (TX2 k).2.2.1 = some (tyX2 k) := by decide +kernel
def RX3 : String := "TrailSearch$Points"
def TX3 : u_T := fun k => match k with
  | 0 => ("TrailSearch$Points", "rows", "[LTrailSearch$Point;", true)
  | _ => ("TrailSearch$Points", "size", "I", false)
def tyX3 : Nat → FieldType := fun k => match k with
  | 0 => .array (.object "TrailSearch$Point")
  | _ => .int
abbrev wsX30 : List Cond := u_ws RX3 TX3 2
theorem nmX3 : ∀ a, a < 2 → ∀ b, b < 2 → a ≠ b → (TX3 a).2.1 ≠ (TX3 b).2.1 := by decide +kernel
theorem tyX3_ok : ∀ k, k < 2 → parseFieldDescriptor (TX3 k).2.2.1 = some (tyX3 k) := by decide +kernel
def RX4 : String := "TrailSearch$Program"
def TX4 : u_T := fun k => match k with
  | 0 => ("TrailSearch$Program", "kinds", "[I", true)
  | 1 => ("TrailSearch$Program", "details", "[I", true)
  | 2 => ("TrailSearch$Program", "firstFormulas", "[I", true)
  | 3 => ("TrailSearch$Program", "behinds", "[I", true)
  | 4 => ("TrailSearch$Program", "arounds", "[I", true)
  | 5 => ("TrailSearch$Program", "levels", "[I", true)
  | 6 => ("TrailSearch$Program", "parts", "[I", true)
  | 7 => ("TrailSearch$Program", "partFirsts", "[I", true)
  | 8 => ("TrailSearch$Program", "formulas", "LTrailSearch$Formulas;", true)
  | 9 => ("TrailSearch$Program", "price", "LTrailSearch$Formulas;", true)
  | _ => ("TrailSearch$Program", "size", "I", false)
def tyX4 : Nat → FieldType := fun k => match k with
  | 0 => .array .int
  | 1 => .array .int
  | 2 => .array .int
  | 3 => .array .int
  | 4 => .array .int
  | 5 => .array .int
  | 6 => .array .int
  | 7 => .array .int
  | 8 => .object "TrailSearch$Formulas"
  | 9 => .object "TrailSearch$Formulas"
  | _ => .int
abbrev wsX40 : List Cond := u_ws RX4 TX4 11
theorem nmX4 : ∀ a, a < 11 → ∀ b, b < 11 → a ≠ b → (TX4 a).2.1 ≠ (TX4 b).2.1 := by decide +kernel
theorem tyX4_ok : ∀ k, k < 11 → parseFieldDescriptor (TX4 k).2.2.1 = some (tyX4 k) := by decide +kernel
def RX5 : String := "TrailSearch$Reader"
def TX5 : u_T := fun k => match k with
  | 0 => ("TrailSearch$Reader", "tape", "LTrailSearch$Tape;", true)
  | 1 => ("TrailSearch$Reader", "opened", "[I", true)
  | 2 => ("TrailSearch$Reader", "befores", "[I", true)
  | 3 => ("TrailSearch$Reader", "draft", "LTrailSearch$Program;", true)
  | 4 => ("TrailSearch$Reader", "place", "I", false)
  | 5 => ("TrailSearch$Reader", "open", "I", false)
  | 6 => ("TrailSearch$Reader", "due", "Z", false)
  | _ => ("TrailSearch$Reader", "ended", "Z", false)
def tyX5 : Nat → FieldType := fun k => match k with
  | 0 => .object "TrailSearch$Tape"
  | 1 => .array .int
  | 2 => .array .int
  | 3 => .object "TrailSearch$Program"
  | 4 => .int
  | 5 => .int
  | 6 => .boolean
  | _ => .boolean
abbrev wsX50 : List Cond := u_ws RX5 TX5 8
theorem nmX5 : ∀ a, a < 8 → ∀ b, b < 8 → a ≠ b → (TX5 a).2.1 ≠ (TX5 b).2.1 := by decide +kernel
theorem tyX5_ok : ∀ k, k < 8 → parseFieldDescriptor (TX5 k).2.2.1 = some (tyX5 k) := by decide +kernel
def RX6 : String := "TrailSearch$Search"
def TX6 : u_T := fun k => match k with
  | 0 => ("TrailSearch$Search", "program", "LTrailSearch$Program;", true)
  | 1 => ("TrailSearch$Search", "answers", "LTrailSearch$Answers;", true)
  | 2 => ("TrailSearch$Search", "points", "LTrailSearch$Points;", true)
  | 3 => ("TrailSearch$Search", "inner", "LTrailSearch$Points;", true)
  | 4 => ("TrailSearch$Search", "ways", "[LTrailSearch$Way;", true)
  | 5 => ("TrailSearch$Search", "bases", "[I", true)
  | 6 => ("TrailSearch$Search", "tallies", "[I", true)
  | 7 => ("TrailSearch$Search", "stage", "I", false)
  | 8 => ("TrailSearch$Search", "strategy", "I", false)
  | 9 => ("TrailSearch$Search", "limit", "I", false)
  | 10 => ("TrailSearch$Search", "tooDeep", "Z", false)
  | 11 => ("TrailSearch$Search", "nest", "I", false)
  | 12 => ("TrailSearch$Search", "standing", "Z", false)
  | _ => ("TrailSearch$Search", "budget", "I", false)
def tyX6 : Nat → FieldType := fun k => match k with
  | 0 => .object "TrailSearch$Program"
  | 1 => .object "TrailSearch$Answers"
  | 2 => .object "TrailSearch$Points"
  | 3 => .object "TrailSearch$Points"
  | 4 => .array (.object "TrailSearch$Way")
  | 5 => .array .int
  | 6 => .array .int
  | 7 => .int
  | 8 => .int
  | 9 => .int
  | 10 => .boolean
  | 11 => .int
  | 12 => .boolean
  | _ => .int
abbrev wsX60 : List Cond := u_ws RX6 TX6 14
theorem nmX6 : ∀ a, a < 14 → ∀ b, b < 14 → a ≠ b → (TX6 a).2.1 ≠ (TX6 b).2.1 := by decide +kernel
theorem tyX6_ok : ∀ k, k < 14 → parseFieldDescriptor (TX6 k).2.2.1 = some (tyX6 k) := by decide +kernel
def RX7 : String := "TrailSearch$Tape"
def TX7 : u_T := fun k => match k with
  | 0 => ("TrailSearch$Tape", "bytes", "[I", true)
  | _ => ("TrailSearch$Tape", "size", "I", false)
def tyX7 : Nat → FieldType := fun k => match k with
  | 0 => .array .int
  | _ => .int
abbrev wsX70 : List Cond := u_ws RX7 TX7 2
theorem nmX7 : ∀ a, a < 2 → ∀ b, b < 2 → a ≠ b → (TX7 a).2.1 ≠ (TX7 b).2.1 := by decide +kernel
theorem tyX7_ok : ∀ k, k < 2 → parseFieldDescriptor (TX7 k).2.2.1 = some (tyX7 k) := by decide +kernel
def RX8 : String := "TrailSearch$Way"
def TX8 : u_T := fun k => match k with
  | 0 => ("TrailSearch$Way", "values", "[I", true)
  | 1 => ("TrailSearch$Way", "marks", "[I", true)
  | 2 => ("TrailSearch$Way", "rounds", "[I", true)
  | 3 => ("TrailSearch$Way", "at", "I", false)
  | 4 => ("TrailSearch$Way", "within", "I", false)
  | 5 => ("TrailSearch$Way", "depth", "I", false)
  | 6 => ("TrailSearch$Way", "turns", "I", false)
  | _ => ("TrailSearch$Way", "came", "I", false)
def tyX8 : Nat → FieldType := fun k => match k with
  | 0 => .array .int
  | 1 => .array .int
  | 2 => .array .int
  | 3 => .int
  | 4 => .int
  | 5 => .int
  | 6 => .int
  | _ => .int
abbrev wsX80 : List Cond := u_ws RX8 TX8 8
theorem nmX8 : ∀ a, a < 8 → ∀ b, b < 8 → a ≠ b → (TX8 a).2.1 ≠ (TX8 b).2.1 := by decide +kernel
theorem tyX8_ok : ∀ k, k < 8 → parseFieldDescriptor (TX8 k).2.2.1 = some (tyX8 k) := by decide +kernel
def RX9 : String := "TrailSearch"
def TX9 : u_T := fun k => match k with
  | 0 => ("TrailSearch", "tape", "LTrailSearch$Tape;", true)
  | 1 => ("TrailSearch", "reader", "LTrailSearch$Reader;", true)
  | 2 => ("TrailSearch", "programs", "[LTrailSearch$Program;", true)
  | 3 => ("TrailSearch", "searches", "[LTrailSearch$Search;", true)
  | _ => ("TrailSearch", "thought", "LTrailSearch$Search;", true)
def tyX9 : Nat → FieldType := fun k => match k with
  | 0 => .object "TrailSearch$Tape"
  | 1 => .object "TrailSearch$Reader"
  | 2 => .array (.object "TrailSearch$Program")
  | 3 => .array (.object "TrailSearch$Search")
  | _ => .object "TrailSearch$Search"
abbrev wsX90 : List Cond := u_ws RX9 TX9 5
theorem nmX9 : ∀ a, a < 5 → ∀ b, b < 5 → a ≠ b → (TX9 a).2.1 ≠ (TX9 b).2.1 := by decide +kernel
theorem tyX9_ok : ∀ k, k < 5 → parseFieldDescriptor (TX9 k).2.2.1 = some (tyX9 k) := by decide +kernel
abbrev cX0_init : ByteArray := prog_2_method_1_code
def yX0_init : MethodName := ⟨RX0, "<init>", "()V"⟩
def q0_init : ZMeth := (yX0_init, cX0_init, 1, none, RX0)
abbrev cX0_add : ByteArray := prog_2_method_3_code
def yX0_add : MethodName := ⟨RX0, "add", "(LTrailSearch$Way;II)Z"⟩
def q0_add : ZMeth := (yX0_add, cX0_add, 5, some .boolean, RX0)
abbrev cX0_setField : ByteArray := prog_2_method_4_code
def yX0_setField : MethodName := ⟨RX0, "setField", "(III)V"⟩
def q0_setField : ZMeth := (yX0_setField, cX0_setField, 5, none, RX0)
abbrev cX0_field : ByteArray := prog_2_method_5_code
def yX0_field : MethodName := ⟨RX0, "field", "(II)I"⟩
def q0_field : ZMeth := (yX0_field, cX0_field, 4, some .int, RX0)
abbrev cX0_ranked : ByteArray := prog_2_method_6_code
def yX0_ranked : MethodName := ⟨RX0, "ranked", "(I)I"⟩
def q0_ranked : ZMeth := (yX0_ranked, cX0_ranked, 3, some .int, RX0)
abbrev cX0_rankOf : ByteArray := prog_2_method_7_code
def yX0_rankOf : MethodName := ⟨RX0, "rankOf", "(I)I"⟩
def q0_rankOf : ZMeth := (yX0_rankOf, cX0_rankOf, 6, some .int, RX0)
abbrev cX0_sharedWith : ByteArray := prog_2_method_8_code
def yX0_sharedWith : MethodName := ⟨RX0, "sharedWith", "(LTrailSearch$Answers;)I"⟩
def q0_sharedWith : ZMeth := (yX0_sharedWith, cX0_sharedWith, 4, some .int, RX0)
abbrev cX0_different : ByteArray := prog_2_method_9_code
def yX0_different : MethodName := ⟨RX0, "different", "()I"⟩
def q0_different : ZMeth := (yX0_different, cX0_different, 3, some .int, RX0)
abbrev cX0_hasLike : ByteArray := prog_2_method_10_code
def yX0_hasLike : MethodName := ⟨RX0, "hasLike", "(LTrailSearch$Answers;II)Z"⟩
def q0_hasLike : ZMeth := (yX0_hasLike, cX0_hasLike, 5, some .boolean, RX0)
abbrev cX0_alike : ByteArray := prog_2_method_11_code
def yX0_alike : MethodName := ⟨RX0, "alike", "(ILTrailSearch$Answers;I)Z"⟩
def q0_alike : ZMeth := (yX0_alike, cX0_alike, 5, some .boolean, RX0)
abbrev cX1_init : ByteArray := prog_3_method_1_code
def yX1_init : MethodName := ⟨RX1, "<init>", "()V"⟩
def q1_init : ZMeth := (yX1_init, cX1_init, 1, none, RX1)
abbrev cX1_clear : ByteArray := prog_3_method_2_code
def yX1_clear : MethodName := ⟨RX1, "clear", "()V"⟩
def q1_clear : ZMeth := (yX1_clear, cX1_clear, 1, none, RX1)
abbrev cX1_become : ByteArray := prog_3_method_3_code
def yX1_become : MethodName := ⟨RX1, "become", "(LTrailSearch$Formulas;)V"⟩
def q1_become : ZMeth := (yX1_become, cX1_become, 2, none, RX1)
abbrev cX1_startFormula : ByteArray := prog_3_method_4_code
def yX1_startFormula : MethodName := ⟨RX1, "startFormula", "()V"⟩
def q1_startFormula : ZMeth := (yX1_startFormula, cX1_startFormula, 1, none, RX1)
abbrev cX1_addFactor : ByteArray := prog_3_method_5_code
def yX1_addFactor : MethodName := ⟨RX1, "addFactor", "(IIZ)V"⟩
def q1_addFactor : ZMeth := (yX1_addFactor, cX1_addFactor, 4, none, RX1)
abbrev cX1_worth : ByteArray := prog_3_method_6_code
def yX1_worth : MethodName := ⟨RX1, "worth", "(I[I)I"⟩
def q1_worth : ZMeth := (yX1_worth, cX1_worth, 11, some .int, RX1)
abbrev cX1_endOf : ByteArray := prog_3_method_7_code
def yX1_endOf : MethodName := ⟨RX1, "endOf", "(I)I"⟩
def q1_endOf : ZMeth := (yX1_endOf, cX1_endOf, 3, some .int, RX1)
abbrev cX1_joinAt : ByteArray := prog_3_method_8_code
def yX1_joinAt : MethodName := ⟨RX1, "joinAt", "(I)I"⟩
def q1_joinAt : ZMeth := (yX1_joinAt, cX1_joinAt, 2, some .int, RX1)
abbrev cX1_factorWorth : ByteArray := prog_3_method_9_code
def yX1_factorWorth : MethodName := ⟨RX1, "factorWorth", "(I[I)I"⟩
def q1_factorWorth : ZMeth := (yX1_factorWorth, cX1_factorWorth, 7, some .int, RX1)
abbrev cX2_init : ByteArray := prog_4_method_1_code
def yX2_init : MethodName := ⟨RX2, "<init>", "()V"⟩
def q2_init : ZMeth := (yX2_init, cX2_init, 1, none, RX2)
abbrev cX2_left : ByteArray := prog_4_method_3_code
def yX2_left : MethodName := ⟨RX2, "left", "()I"⟩
def q2_left : ZMeth := (yX2_left, cX2_left, 1, some .int, RX2)
abbrev cX2_amongAt : ByteArray := prog_4_method_4_code
def yX2_amongAt : MethodName := ⟨RX2, "amongAt", "(I)I"⟩
def q2_amongAt : ZMeth := (yX2_amongAt, cX2_amongAt, 2, some .int, RX2)
abbrev cX2_weight : ByteArray := prog_4_method_6_code
def yX2_weight : MethodName := ⟨RX2, "weight", "(I)I"⟩
def q2_weight : ZMeth := (yX2_weight, cX2_weight, 2, some .int, RX2)
abbrev cX3_init : ByteArray := prog_5_method_1_code
def yX3_init : MethodName := ⟨RX3, "<init>", "()V"⟩
def q3_init : ZMeth := (yX3_init, cX3_init, 2, none, RX3)
abbrev cX3_spare : ByteArray := prog_5_method_3_code
def yX3_spare : MethodName := ⟨RX3, "spare", "()LTrailSearch$Point;"⟩
def q3_spare : ZMeth := (yX3_spare, cX3_spare, 1, some (.object "TrailSearch$Point"), RX3)
abbrev cX3_openAt : ByteArray := prog_5_method_4_code
def yX3_openAt : MethodName := ⟨RX3, "openAt", "(I)LTrailSearch$Point;"⟩
def q3_openAt : ZMeth := (yX3_openAt, cX3_openAt, 2, some (.object "TrailSearch$Point"), RX3)
abbrev cX3_remove : ByteArray := prog_5_method_5_code
def yX3_remove : MethodName := ⟨RX3, "remove", "(ILTrailSearch$Way;)V"⟩
def q3_remove : ZMeth := (yX3_remove, cX3_remove, 5, none, RX3)
abbrev cX3_withoutBit : ByteArray := prog_5_method_6_code
def yX3_withoutBit : MethodName := ⟨RX3, "withoutBit", "(II)I"⟩
def q3_withoutBit : ZMeth := (yX3_withoutBit, cX3_withoutBit, 4, some .int, RX3)
abbrev cX3_drop : ByteArray := prog_5_method_7_code
def yX3_drop : MethodName := ⟨RX3, "drop", "(LTrailSearch$Way;I)I"⟩
def q3_drop : ZMeth := (yX3_drop, cX3_drop, 7, some .int, RX3)
abbrev cX4_init : ByteArray := prog_6_method_1_code
def yX4_init : MethodName := ⟨RX4, "<init>", "()V"⟩
def q4_init : ZMeth := (yX4_init, cX4_init, 1, none, RX4)
abbrev cX4_clear : ByteArray := prog_6_method_2_code
def yX4_clear : MethodName := ⟨RX4, "clear", "()V"⟩
def q4_clear : ZMeth := (yX4_clear, cX4_clear, 1, none, RX4)
abbrev cX4_become : ByteArray := prog_6_method_3_code
def yX4_become : MethodName := ⟨RX4, "become", "(LTrailSearch$Program;)V"⟩
def q4_become : ZMeth := (yX4_become, cX4_become, 2, none, RX4)
abbrev cX4_addStatement : ByteArray := prog_6_method_4_code
def yX4_addStatement : MethodName := ⟨RX4, "addStatement", "(IIII)I"⟩
def q4_addStatement : ZMeth := (yX4_addStatement, cX4_addStatement, 6, some .int, RX4)
abbrev cX4_linkBehind : ByteArray := prog_6_method_5_code
def yX4_linkBehind : MethodName := ⟨RX4, "linkBehind", "(II)V"⟩
def q4_linkBehind : ZMeth := (yX4_linkBehind, cX4_linkBehind, 3, none, RX4)
abbrev cX4_addPart : ByteArray := prog_6_method_6_code
def yX4_addPart : MethodName := ⟨RX4, "addPart", "(I)Z"⟩
def q4_addPart : ZMeth := (yX4_addPart, cX4_addPart, 2, some .boolean, RX4)
abbrev cX4_linkFirst : ByteArray := prog_6_method_7_code
def yX4_linkFirst : MethodName := ⟨RX4, "linkFirst", "(II)V"⟩
def q4_linkFirst : ZMeth := (yX4_linkFirst, cX4_linkFirst, 4, none, RX4)
abbrev cX4_setDetail : ByteArray := prog_6_method_8_code
def yX4_setDetail : MethodName := ⟨RX4, "setDetail", "(II)V"⟩
def q4_setDetail : ZMeth := (yX4_setDetail, cX4_setDetail, 3, none, RX4)
abbrev cX4_has : ByteArray := prog_6_method_9_code
def yX4_has : MethodName := ⟨RX4, "has", "(I)Z"⟩
def q4_has : ZMeth := (yX4_has, cX4_has, 2, some .boolean, RX4)
abbrev cX4_kindOf : ByteArray := prog_6_method_10_code
def yX4_kindOf : MethodName := ⟨RX4, "kindOf", "(I)I"⟩
def q4_kindOf : ZMeth := (yX4_kindOf, cX4_kindOf, 2, some .int, RX4)
abbrev cX4_detailOf : ByteArray := prog_6_method_11_code
def yX4_detailOf : MethodName := ⟨RX4, "detailOf", "(I)I"⟩
def q4_detailOf : ZMeth := (yX4_detailOf, cX4_detailOf, 2, some .int, RX4)
abbrev cX4_behind : ByteArray := prog_6_method_12_code
def yX4_behind : MethodName := ⟨RX4, "behind", "(I)I"⟩
def q4_behind : ZMeth := (yX4_behind, cX4_behind, 2, some .int, RX4)
abbrev cX4_around : ByteArray := prog_6_method_13_code
def yX4_around : MethodName := ⟨RX4, "around", "(I)I"⟩
def q4_around : ZMeth := (yX4_around, cX4_around, 2, some .int, RX4)
abbrev cX4_levelOf : ByteArray := prog_6_method_14_code
def yX4_levelOf : MethodName := ⟨RX4, "levelOf", "(I)I"⟩
def q4_levelOf : ZMeth := (yX4_levelOf, cX4_levelOf, 2, some .int, RX4)
abbrev cX4_partsOf : ByteArray := prog_6_method_15_code
def yX4_partsOf : MethodName := ⟨RX4, "partsOf", "(I)I"⟩
def q4_partsOf : ZMeth := (yX4_partsOf, cX4_partsOf, 2, some .int, RX4)
abbrev cX4_partFirst : ByteArray := prog_6_method_16_code
def yX4_partFirst : MethodName := ⟨RX4, "partFirst", "(II)I"⟩
def q4_partFirst : ZMeth := (yX4_partFirst, cX4_partFirst, 4, some .int, RX4)
abbrev cX4_formulaOf : ByteArray := prog_6_method_17_code
def yX4_formulaOf : MethodName := ⟨RX4, "formulaOf", "(I)I"⟩
def q4_formulaOf : ZMeth := (yX4_formulaOf, cX4_formulaOf, 2, some .int, RX4)
abbrev cX4_priceOf : ByteArray := prog_6_method_18_code
def yX4_priceOf : MethodName := ⟨RX4, "priceOf", "([I)I"⟩
def q4_priceOf : ZMeth := (yX4_priceOf, cX4_priceOf, 2, some .int, RX4)
abbrev cX5_init : ByteArray := prog_7_method_1_code
def yX5_init : MethodName := ⟨RX5, "<init>", "(LTrailSearch$Tape;)V"⟩
def q5_init : ZMeth := (yX5_init, cX5_init, 2, none, RX5)
abbrev cX5_readProgram : ByteArray := prog_7_method_2_code
def yX5_readProgram : MethodName := ⟨RX5, "readProgram", "()I"⟩
def q5_readProgram : ZMeth := (yX5_readProgram, cX5_readProgram, 3, some .int, RX5)
abbrev cX5_readCost : ByteArray := prog_7_method_3_code
def yX5_readCost : MethodName := ⟨RX5, "readCost", "()I"⟩
def q5_readCost : ZMeth := (yX5_readCost, cX5_readCost, 2, some .int, RX5)
abbrev cX5_readStatement : ByteArray := prog_7_method_4_code
def yX5_readStatement : MethodName := ⟨RX5, "readStatement", "()Z"⟩
def q5_readStatement : ZMeth := (yX5_readStatement, cX5_readStatement, 3, some .boolean, RX5)
abbrev cX5_addStatement : ByteArray := prog_7_method_5_code
def yX5_addStatement : MethodName := ⟨RX5, "addStatement", "(II)I"⟩
def q5_addStatement : ZMeth := (yX5_addStatement, cX5_addStatement, 6, some .int, RX5)
abbrev cX5_setBefore : ByteArray := prog_7_method_6_code
def yX5_setBefore : MethodName := ⟨RX5, "setBefore", "(I)V"⟩
def q5_setBefore : ZMeth := (yX5_setBefore, cX5_setBefore, 2, none, RX5)
abbrev cX5_openBracket : ByteArray := prog_7_method_7_code
def yX5_openBracket : MethodName := ⟨RX5, "openBracket", "(I)Z"⟩
def q5_openBracket : ZMeth := (yX5_openBracket, cX5_openBracket, 2, some .boolean, RX5)
abbrev cX5_readChoose : ByteArray := prog_7_method_8_code
def yX5_readChoose : MethodName := ⟨RX5, "readChoose", "(I)Z"⟩
def q5_readChoose : ZMeth := (yX5_readChoose, cX5_readChoose, 3, some .boolean, RX5)
abbrev cX5_readTest : ByteArray := prog_7_method_9_code
def yX5_readTest : MethodName := ⟨RX5, "readTest", "()Z"⟩
def q5_readTest : ZMeth := (yX5_readTest, cX5_readTest, 4, some .boolean, RX5)
abbrev cX5_readSign : ByteArray := prog_7_method_10_code
def yX5_readSign : MethodName := ⟨RX5, "readSign", "(I)Z"⟩
def q5_readSign : ZMeth := (yX5_readSign, cX5_readSign, 2, some .boolean, RX5)
abbrev cX5_readFormula : ByteArray := prog_7_method_11_code
def yX5_readFormula : MethodName := ⟨RX5, "readFormula", "(LTrailSearch$Formulas;)Z"⟩
def q5_readFormula : ZMeth := (yX5_readFormula, cX5_readFormula, 4, some .boolean, RX5)
abbrev cX5_joinOf : ByteArray := prog_7_method_12_code
def yX5_joinOf : MethodName := ⟨RX5, "joinOf", "(I)I"⟩
def q5_joinOf : ZMeth := (yX5_joinOf, cX5_joinOf, 1, some .int, RX5)
abbrev cX5_readFactor : ByteArray := prog_7_method_13_code
def yX5_readFactor : MethodName := ⟨RX5, "readFactor", "(LTrailSearch$Formulas;I)Z"⟩
def q5_readFactor : ZMeth := (yX5_readFactor, cX5_readFactor, 7, some .boolean, RX5)
abbrev cX5_readBehind : ByteArray := prog_7_method_14_code
def yX5_readBehind : MethodName := ⟨RX5, "readBehind", "()Z"⟩
def q5_readBehind : ZMeth := (yX5_readBehind, cX5_readBehind, 4, some .boolean, RX5)
abbrev cX5_isVariable : ByteArray := prog_7_method_15_code
def yX5_isVariable : MethodName := ⟨RX5, "isVariable", "(I)Z"⟩
def q5_isVariable : ZMeth := (yX5_isVariable, cX5_isVariable, 1, some .boolean, RX5)
abbrev cX5_isDigit : ByteArray := prog_7_method_16_code
def yX5_isDigit : MethodName := ⟨RX5, "isDigit", "(I)Z"⟩
def q5_isDigit : ZMeth := (yX5_isDigit, cX5_isDigit, 1, some .boolean, RX5)
abbrev cX6_init : ByteArray := prog_8_method_1_code
def yX6_init : MethodName := ⟨RX6, "<init>", "()V"⟩
def q6_init : ZMeth := (yX6_init, cX6_init, 2, none, RX6)
abbrev cX6_start : ByteArray := prog_8_method_2_code
def yX6_start : MethodName := ⟨RX6, "start", "(LTrailSearch$Program;I)V"⟩
def q6_start : ZMeth := (yX6_start, cX6_start, 4, none, RX6)
abbrev cX6_startWay : ByteArray := prog_8_method_3_code
def yX6_startWay : MethodName := ⟨RX6, "startWay", "()V"⟩
def q6_startWay : ZMeth := (yX6_startWay, cX6_startWay, 1, none, RX6)
abbrev cX6_tell : ByteArray := prog_8_method_5_code
def yX6_tell : MethodName := ⟨RX6, "tell", "(I)I"⟩
def q6_tell : ZMeth := (yX6_tell, cX6_tell, 2, some .int, RX6)
abbrev cX6_tally : ByteArray := prog_8_method_6_code
def yX6_tally : MethodName := ⟨RX6, "tally", "(II)V"⟩
def q6_tally : ZMeth := (yX6_tally, cX6_tally, 3, none, RX6)
abbrev cX6_mayTake : ByteArray := prog_8_method_7_code
def yX6_mayTake : MethodName := ⟨RX6, "mayTake", "()Z"⟩
def q6_mayTake : ZMeth := (yX6_mayTake, cX6_mayTake, 1, some .boolean, RX6)
abbrev cX6_chosen : ByteArray := prog_8_method_8_code
def yX6_chosen : MethodName := ⟨RX6, "chosen", "()I"⟩
def q6_chosen : ZMeth := (yX6_chosen, cX6_chosen, 7, some .int, RX6)
abbrev cX6_run : ByteArray := prog_8_method_9_code
def yX6_run : MethodName := ⟨RX6, "run", "(IZ)I"⟩
def q6_run : ZMeth := (yX6_run, cX6_run, 6, some .int, RX6)
abbrev cX6_spend : ByteArray := prog_8_method_10_code
def yX6_spend : MethodName := ⟨RX6, "spend", "()Z"⟩
def q6_spend : ZMeth := (yX6_spend, cX6_spend, 1, some .boolean, RX6)
abbrev cX6_finish : ByteArray := prog_8_method_11_code
def yX6_finish : MethodName := ⟨RX6, "finish", "(I)I"⟩
def q6_finish : ZMeth := (yX6_finish, cX6_finish, 2, some .int, RX6)
abbrev cX6_endWay : ByteArray := prog_8_method_12_code
def yX6_endWay : MethodName := ⟨RX6, "endWay", "()I"⟩
def q6_endWay : ZMeth := (yX6_endWay, cX6_endWay, 1, some .int, RX6)
abbrev cX6_currentWay : ByteArray := prog_8_method_13_code
def yX6_currentWay : MethodName := ⟨RX6, "currentWay", "()LTrailSearch$Way;"⟩
def q6_currentWay : ZMeth := (yX6_currentWay, cX6_currentWay, 1, some (.object "TrailSearch$Way"), RX6)
abbrev cX6_goBack : ByteArray := prog_8_method_14_code
def yX6_goBack : MethodName := ⟨RX6, "goBack", "(LTrailSearch$Way;)I"⟩
def q6_goBack : ZMeth := (yX6_goBack, cX6_goBack, 4, some .int, RX6)
abbrev cX6_goBackInNot : ByteArray := prog_8_method_15_code
def yX6_goBackInNot : MethodName := ⟨RX6, "goBackInNot", "()I"⟩
def q6_goBackInNot : ZMeth := (yX6_goBackInNot, cX6_goBackInNot, 2, some .int, RX6)
abbrev cX6_baseOfNot : ByteArray := prog_8_method_16_code
def yX6_baseOfNot : MethodName := ⟨RX6, "baseOfNot", "()I"⟩
def q6_baseOfNot : ZMeth := (yX6_baseOfNot, cX6_baseOfNot, 1, some .int, RX6)
abbrev cX6_goDeeper : ByteArray := prog_8_method_17_code
def yX6_goDeeper : MethodName := ⟨RX6, "goDeeper", "()I"⟩
def q6_goDeeper : ZMeth := (yX6_goDeeper, cX6_goDeeper, 1, some .int, RX6)
abbrev cX6_take : ByteArray := prog_8_method_18_code
def yX6_take : MethodName := ⟨RX6, "take", "(LTrailSearch$Points;I)V"⟩
def q6_take : ZMeth := (yX6_take, cX6_take, 9, none, RX6)
abbrev cX6_endPart : ByteArray := prog_8_method_19_code
def yX6_endPart : MethodName := ⟨RX6, "endPart", "(LTrailSearch$Way;)I"⟩
def q6_endPart : ZMeth := (yX6_endPart, cX6_endPart, 5, some .int, RX6)
abbrev cX6_through : ByteArray := prog_8_method_20_code
def yX6_through : MethodName := ⟨RX6, "through", "(LTrailSearch$Way;)I"⟩
def q6_through : ZMeth := (yX6_through, cX6_through, 3, some .int, RX6)
abbrev cX6_beginStatement : ByteArray := prog_8_method_21_code
def yX6_beginStatement : MethodName := ⟨RX6, "beginStatement", "(LTrailSearch$Way;)I"⟩
def q6_beginStatement : ZMeth := (yX6_beginStatement, cX6_beginStatement, 3, some .int, RX6)
abbrev cX6_assign : ByteArray := prog_8_method_22_code
def yX6_assign : MethodName := ⟨RX6, "assign", "(LTrailSearch$Way;I)I"⟩
def q6_assign : ZMeth := (yX6_assign, cX6_assign, 4, some .int, RX6)
abbrev cX6_test : ByteArray := prog_8_method_23_code
def yX6_test : MethodName := ⟨RX6, "test", "(LTrailSearch$Way;I)I"⟩
def q6_test : ZMeth := (yX6_test, cX6_test, 6, some .int, RX6)
abbrev cX6_isSo : ByteArray := prog_8_method_24_code
def yX6_isSo : MethodName := ⟨RX6, "isSo", "(III)Z"⟩
def q6_isSo : ZMeth := (yX6_isSo, cX6_isSo, 3, some .boolean, RX6)
abbrev cX6_beginNot : ByteArray := prog_8_method_25_code
def yX6_beginNot : MethodName := ⟨RX6, "beginNot", "(LTrailSearch$Way;I)I"⟩
def q6_beginNot : ZMeth := (yX6_beginNot, cX6_beginNot, 5, some .int, RX6)
abbrev cX6_drop : ByteArray := prog_8_method_26_code
def yX6_drop : MethodName := ⟨RX6, "drop", "(LTrailSearch$Way;I)V"⟩
def q6_drop : ZMeth := (yX6_drop, cX6_drop, 3, none, RX6)
abbrev cX6_choose : ByteArray := prog_8_method_27_code
def yX6_choose : MethodName := ⟨RX6, "choose", "(LTrailSearch$Way;I)I"⟩
def q6_choose : ZMeth := (yX6_choose, cX6_choose, 6, some .int, RX6)
abbrev cX6_prepareUpTo : ByteArray := prog_8_method_28_code
def yX6_prepareUpTo : MethodName := ⟨RX6, "prepareUpTo", "(LTrailSearch$Point;LTrailSearch$Way;I)I"⟩
def q6_prepareUpTo : ZMeth := (yX6_prepareUpTo, cX6_prepareUpTo, 7, some .int, RX6)
abbrev cX6_prepareAmong : ByteArray := prog_8_method_29_code
def yX6_prepareAmong : MethodName := ⟨RX6, "prepareAmong", "(LTrailSearch$Point;LTrailSearch$Way;I)I"⟩
def q6_prepareAmong : ZMeth := (yX6_prepareAmong, cX6_prepareAmong, 8, some .int, RX6)
abbrev cX7_init : ByteArray := prog_9_method_1_code
def yX7_init : MethodName := ⟨RX7, "<init>", "()V"⟩
def q7_init : ZMeth := (yX7_init, cX7_init, 1, none, RX7)
abbrev cX7_add : ByteArray := prog_9_method_2_code
def yX7_add : MethodName := ⟨RX7, "add", "(I)Z"⟩
def q7_add : ZMeth := (yX7_add, cX7_add, 2, some .boolean, RX7)
abbrev cX7_clear : ByteArray := prog_9_method_3_code
def yX7_clear : MethodName := ⟨RX7, "clear", "()V"⟩
def q7_clear : ZMeth := (yX7_clear, cX7_clear, 1, none, RX7)
abbrev cX7_at : ByteArray := prog_9_method_4_code
def yX7_at : MethodName := ⟨RX7, "at", "(I)I"⟩
def q7_at : ZMeth := (yX7_at, cX7_at, 2, some .int, RX7)
abbrev cX8_init : ByteArray := prog_10_method_1_code
def yX8_init : MethodName := ⟨RX8, "<init>", "()V"⟩
def q8_init : ZMeth := (yX8_init, cX8_init, 1, none, RX8)
abbrev cX8_start : ByteArray := prog_10_method_2_code
def yX8_start : MethodName := ⟨RX8, "start", "()V"⟩
def q8_start : ZMeth := (yX8_start, cX8_start, 2, none, RX8)
abbrev cX8_become : ByteArray := prog_10_method_3_code
def yX8_become : MethodName := ⟨RX8, "become", "(LTrailSearch$Way;)V"⟩
def q8_become : ZMeth := (yX8_become, cX8_become, 2, none, RX8)
abbrev cX8_enter : ByteArray := prog_10_method_4_code
def yX8_enter : MethodName := ⟨RX8, "enter", "(III)V"⟩
def q8_enter : ZMeth := (yX8_enter, cX8_enter, 4, none, RX8)
abbrev cX8_setMark : ByteArray := prog_10_method_5_code
def yX8_setMark : MethodName := ⟨RX8, "setMark", "(I)V"⟩
def q8_setMark : ZMeth := (yX8_setMark, cX8_setMark, 2, none, RX8)
abbrev cX8_markAt : ByteArray := prog_10_method_6_code
def yX8_markAt : MethodName := ⟨RX8, "markAt", "(I)I"⟩
def q8_markAt : ZMeth := (yX8_markAt, cX8_markAt, 2, some .int, RX8)
abbrev cX8_setRounds : ByteArray := prog_10_method_7_code
def yX8_setRounds : MethodName := ⟨RX8, "setRounds", "(II)V"⟩
def q8_setRounds : ZMeth := (yX8_setRounds, cX8_setRounds, 3, none, RX8)
abbrev cX8_roundsAt : ByteArray := prog_10_method_8_code
def yX8_roundsAt : MethodName := ⟨RX8, "roundsAt", "(I)I"⟩
def q8_roundsAt : ZMeth := (yX8_roundsAt, cX8_roundsAt, 2, some .int, RX8)
abbrev cX8_setValue : ByteArray := prog_10_method_9_code
def yX8_setValue : MethodName := ⟨RX8, "setValue", "(II)V"⟩
def q8_setValue : ZMeth := (yX8_setValue, cX8_setValue, 3, none, RX8)
abbrev cX8_valueOf : ByteArray := prog_10_method_10_code
def yX8_valueOf : MethodName := ⟨RX8, "valueOf", "(I)I"⟩
def q8_valueOf : ZMeth := (yX8_valueOf, cX8_valueOf, 2, some .int, RX8)
abbrev cX8_unlikeValues : ByteArray := prog_10_method_11_code
def yX8_unlikeValues : MethodName := ⟨RX8, "unlikeValues", "(LTrailSearch$Way;)I"⟩
def q8_unlikeValues : ZMeth := (yX8_unlikeValues, cX8_unlikeValues, 4, some .int, RX8)
abbrev cX9_init : ByteArray := prog_1_method_1_code
def yX9_init : MethodName := ⟨RX9, "<init>", "()V"⟩
def q9_init : ZMeth := (yX9_init, cX9_init, 2, none, RX9)
abbrev cX9_feed : ByteArray := prog_1_method_2_code
def yX9_feed : MethodName := ⟨RX9, "feed", "(I)I"⟩
def q9_feed : ZMeth := (yX9_feed, cX9_feed, 2, some .int, RX9)
abbrev cX9_program : ByteArray := prog_1_method_3_code
def yX9_program : MethodName := ⟨RX9, "program", "(I)I"⟩
def q9_program : ZMeth := (yX9_program, cX9_program, 4, some .int, RX9)
abbrev cX9_cost : ByteArray := prog_1_method_4_code
def yX9_cost : MethodName := ⟨RX9, "cost", "(I)I"⟩
def q9_cost : ZMeth := (yX9_cost, cX9_cost, 4, some .int, RX9)
abbrev cX9_begin : ByteArray := prog_1_method_5_code
def yX9_begin : MethodName := ⟨RX9, "begin", "(III)I"⟩
def q9_begin : ZMeth := (yX9_begin, cX9_begin, 6, some .int, RX9)
abbrev cX9_go : ByteArray := prog_1_method_6_code
def yX9_go : MethodName := ⟨RX9, "go", "(II)I"⟩
def q9_go : ZMeth := (yX9_go, cX9_go, 4, some .int, RX9)
abbrev cX9_all : ByteArray := prog_1_method_7_code
def yX9_all : MethodName := ⟨RX9, "all", "(II)I"⟩
def q9_all : ZMeth := (yX9_all, cX9_all, 5, some .int, RX9)
abbrev cX9_of : ByteArray := prog_1_method_8_code
def yX9_of : MethodName := ⟨RX9, "of", "(II)I"⟩
def q9_of : ZMeth := (yX9_of, cX9_of, 4, some .int, RX9)
abbrev cX9_answer : ByteArray := prog_1_method_9_code
def yX9_answer : MethodName := ⟨RX9, "answer", "(III)I"⟩
def q9_answer : ZMeth := (yX9_answer, cX9_answer, 5, some .int, RX9)
abbrev cX9_next : ByteArray := prog_1_method_11_code
def yX9_next : MethodName := ⟨RX9, "next", "(I)I"⟩
def q9_next : ZMeth := (yX9_next, cX9_next, 3, some .int, RX9)
abbrev cX9_ordered : ByteArray := prog_1_method_12_code
def yX9_ordered : MethodName := ⟨RX9, "ordered", "(II)I"⟩
def q9_ordered : ZMeth := (yX9_ordered, cX9_ordered, 4, some .int, RX9)
abbrev cX9_common : ByteArray := prog_1_method_13_code
def yX9_common : MethodName := ⟨RX9, "common", "(II)I"⟩
def q9_common : ZMeth := (yX9_common, cX9_common, 5, some .int, RX9)
abbrev cX9_unlike : ByteArray := prog_1_method_14_code
def yX9_unlike : MethodName := ⟨RX9, "unlike", "(I)I"⟩
def q9_unlike : ZMeth := (yX9_unlike, cX9_unlike, 3, some .int, RX9)
abbrev cX9_programAt : ByteArray := prog_1_method_22_code
def yX9_programAt : MethodName := ⟨RX9, "programAt", "(I)LTrailSearch$Program;"⟩
def q9_programAt : ZMeth := (yX9_programAt, cX9_programAt, 2, some (.object "TrailSearch$Program"), RX9)
abbrev cX9_searchAt : ByteArray := prog_1_method_23_code
def yX9_searchAt : MethodName := ⟨RX9, "searchAt", "(I)LTrailSearch$Search;"⟩
def q9_searchAt : ZMeth := (yX9_searchAt, cX9_searchAt, 2, some (.object "TrailSearch$Search"), RX9)
abbrev cX9_isValue : ByteArray := prog_1_method_24_code
def yX9_isValue : MethodName := ⟨RX9, "isValue", "(I)Z"⟩
def q9_isValue : ZMeth := (yX9_isValue, cX9_isValue, 1, some .boolean, RX9)
abbrev zCl : List vw_C := [(RX0, TX0, 2), (RX1, TX1, 5), (RX2, TX2, 6), (RX3, TX3, 2), (RX4, TX4, 11), (RX5, TX5, 8), (RX6, TX6, 14), (RX7, TX7, 2), (RX8, TX8, 8), (RX9, TX9, 5)]
/-- the words that a method hands on to those that it calls -/
def zTb : List Cond := lw_tbl.filter goodWord
theorem z_in {w : Cond} (i : Nat) (h : lw_tbl[i]? = some w) (g : goodWord w = true) : w ∈ zTb := List.mem_filter.mpr ⟨List.mem_of_getElem? h, g⟩
theorem z_good {w : Cond} (h : w ∈ zTb) : goodWord w = true := (List.mem_filter.mp h).2
theorem z_tbl {w : Cond} (h : w ∈ zTb) : w ∈ lw_tbl := (List.mem_filter.mp h).1
theorem inZ0 : ∀ w ∈ wsX00, w ∈ zTb := fun w h => List.mem_filter.mpr ⟨z_pl [200, 202] (by decide +kernel) w h, List.all_eq_true.mp (by decide +kernel : (wsX00).all goodWord = true) w h⟩
theorem inZ1 : ∀ w ∈ wsX10, w ∈ zTb := fun w h => List.mem_filter.mpr ⟨z_pl [101, 103, 105, 107, 109] (by decide +kernel) w h, List.all_eq_true.mp (by decide +kernel : (wsX10).all goodWord = true) w h⟩
theorem inZ2 : ∀ w ∈ wsX20, w ∈ zTb := fun w h => List.mem_filter.mpr ⟨z_pl [272, 274, 276, 278, 280, 282] (by decide +kernel) w h, List.all_eq_true.mp (by decide +kernel : (wsX20).all goodWord = true) w h⟩
theorem inZ3 : ∀ w ∈ wsX30, w ∈ zTb := fun w h => List.mem_filter.mpr ⟨z_pl [288, 290] (by decide +kernel) w h, List.all_eq_true.mp (by decide +kernel : (wsX30).all goodWord = true) w h⟩
theorem inZ4 : ∀ w ∈ wsX40, w ∈ zTb := fun w h => List.mem_filter.mpr ⟨z_pl [129, 131, 133, 135, 137, 139, 141, 143, 145, 147, 149] (by decide +kernel) w h, List.all_eq_true.mp (by decide +kernel : (wsX40).all goodWord = true) w h⟩
theorem inZ5 : ∀ w ∈ wsX50, w ∈ zTb := fun w h => List.mem_filter.mpr ⟨z_pl [161, 163, 165, 167, 169, 171, 173, 175] (by decide +kernel) w h, List.all_eq_true.mp (by decide +kernel : (wsX50).all goodWord = true) w h⟩
theorem inZ6 : ∀ w ∈ wsX60, w ∈ zTb := fun w h => List.mem_filter.mpr ⟨z_pl [312, 314, 316, 318, 320, 322, 324, 326, 328, 330, 332, 334, 336, 338] (by decide +kernel) w h, List.all_eq_true.mp (by decide +kernel : (wsX60).all goodWord = true) w h⟩
theorem inZ7 : ∀ w ∈ wsX70, w ∈ zTb := fun w h => List.mem_filter.mpr ⟨z_pl [71, 73] (by decide +kernel) w h, List.all_eq_true.mp (by decide +kernel : (wsX70).all goodWord = true) w h⟩
theorem inZ8 : ∀ w ∈ wsX80, w ∈ zTb := fun w h => List.mem_filter.mpr ⟨z_pl [243, 245, 247, 249, 251, 253, 255, 257] (by decide +kernel) w h, List.all_eq_true.mp (by decide +kernel : (wsX80).all goodWord = true) w h⟩
theorem inZ9 : ∀ w ∈ wsX90, w ∈ zTb := fun w h => List.mem_filter.mpr ⟨z_pl [346, 348, 350, 352, 354] (by decide +kernel) w h, List.all_eq_true.mp (by decide +kernel : (wsX90).all goodWord = true) w h⟩
