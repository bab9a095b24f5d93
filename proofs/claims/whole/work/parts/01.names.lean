-- ===== PART A: goes FIRST, ahead of the names: the tables' words, and 'selects' of the private methods out of them =====
/-- a private method of a class that the tables say can be made, by its rows of tables_1 -/
def lw_okq (q : MethodName × Nat) : Prop := (q.1.cls ≠ "java/lang/invoke/MethodHandle" ∧ q.1.cls ≠ "java/lang/invoke/VarHandle") ∧ Cond.instantiable q.1.cls q.2 ∈ tables_1 ∧ Cond.privateMethod q.1 ∈ tables_1 ∧ Cond.instanceMethod q.1 ∈ tables_1
theorem lw_p0 : lw_okq (⟨"ThreadCharts$Text", "add", "(I)V"⟩, 2) := ⟨⟨by decide +kernel, by decide +kernel⟩, List.mem_of_getElem? (i := 25) (by decide +kernel), List.mem_of_getElem? (i := 284) (by decide +kernel), List.mem_of_getElem? (i := 285) (by decide +kernel)⟩
theorem lw_p1 : lw_okq (⟨"ThreadCharts$Parser", "faultOf", "(LThreadCharts$Text;)I"⟩, 8) := ⟨⟨by decide +kernel, by decide +kernel⟩, List.mem_of_getElem? (i := 41) (by decide +kernel), List.mem_of_getElem? (i := 296) (by decide +kernel), List.mem_of_getElem? (i := 297) (by decide +kernel)⟩
theorem lw_p2 : lw_okq (⟨"ThreadCharts$Parser", "startOver", "()V"⟩, 8) := ⟨⟨by decide +kernel, by decide +kernel⟩, List.mem_of_getElem? (i := 41) (by decide +kernel), List.mem_of_getElem? (i := 300) (by decide +kernel), List.mem_of_getElem? (i := 301) (by decide +kernel)⟩
theorem lw_p3 : lw_okq (⟨"ThreadCharts$Text", "byteAt", "(I)I"⟩, 2) := ⟨⟨by decide +kernel, by decide +kernel⟩, List.mem_of_getElem? (i := 25) (by decide +kernel), List.mem_of_getElem? (i := 304) (by decide +kernel), List.mem_of_getElem? (i := 305) (by decide +kernel)⟩
theorem lw_p4 : lw_okq (⟨"ThreadCharts$Parser", "takeNumber", "(I)V"⟩, 8) := ⟨⟨by decide +kernel, by decide +kernel⟩, List.mem_of_getElem? (i := 41) (by decide +kernel), List.mem_of_getElem? (i := 308) (by decide +kernel), List.mem_of_getElem? (i := 309) (by decide +kernel)⟩
theorem lw_p5 : lw_okq (⟨"ThreadCharts$Parser", "takes", "(I)Z"⟩, 8) := ⟨⟨by decide +kernel, by decide +kernel⟩, List.mem_of_getElem? (i := 41) (by decide +kernel), List.mem_of_getElem? (i := 312) (by decide +kernel), List.mem_of_getElem? (i := 313) (by decide +kernel)⟩
theorem lw_p6 : lw_okq (⟨"ThreadCharts$Parser", "beginsForm", "(I)Z"⟩, 8) := ⟨⟨by decide +kernel, by decide +kernel⟩, List.mem_of_getElem? (i := 41) (by decide +kernel), List.mem_of_getElem? (i := 316) (by decide +kernel), List.mem_of_getElem? (i := 317) (by decide +kernel)⟩
theorem lw_p7 : lw_okq (⟨"ThreadCharts$Parser", "goesOn", "(II)Z"⟩, 8) := ⟨⟨by decide +kernel, by decide +kernel⟩, List.mem_of_getElem? (i := 41) (by decide +kernel), List.mem_of_getElem? (i := 320) (by decide +kernel), List.mem_of_getElem? (i := 321) (by decide +kernel)⟩
theorem lw_p8 : lw_okq (⟨"ThreadCharts$Parser", "takesLetter", "(III)Z"⟩, 8) := ⟨⟨by decide +kernel, by decide +kernel⟩, List.mem_of_getElem? (i := 41) (by decide +kernel), List.mem_of_getElem? (i := 324) (by decide +kernel), List.mem_of_getElem? (i := 325) (by decide +kernel)⟩
theorem lw_p9 : lw_okq (⟨"ThreadCharts$Parser", "followsPart", "(I)Z"⟩, 8) := ⟨⟨by decide +kernel, by decide +kernel⟩, List.mem_of_getElem? (i := 41) (by decide +kernel), List.mem_of_getElem? (i := 328) (by decide +kernel), List.mem_of_getElem? (i := 329) (by decide +kernel)⟩
theorem lw_p10 : lw_okq (⟨"ThreadCharts$Parser", "squares", "(I)Z"⟩, 8) := ⟨⟨by decide +kernel, by decide +kernel⟩, List.mem_of_getElem? (i := 41) (by decide +kernel), List.mem_of_getElem? (i := 332) (by decide +kernel), List.mem_of_getElem? (i := 333) (by decide +kernel)⟩
theorem lw_p11 : lw_okq (⟨"ThreadCharts", "ruleAt", "(I)LThreadCharts$Rule;"⟩, 17) := ⟨⟨by decide +kernel, by decide +kernel⟩, List.mem_of_getElem? (i := 17) (by decide +kernel), List.mem_of_getElem? (i := 386) (by decide +kernel), List.mem_of_getElem? (i := 387) (by decide +kernel)⟩
theorem lw_p12 : lw_okq (⟨"ThreadCharts$Rule", "kindOf", "(I)I"⟩, 8) := ⟨⟨by decide +kernel, by decide +kernel⟩, List.mem_of_getElem? (i := 339) (by decide +kernel), List.mem_of_getElem? (i := 391) (by decide +kernel), List.mem_of_getElem? (i := 392) (by decide +kernel)⟩
theorem lw_p13 : lw_okq (⟨"ThreadCharts$Rule", "hasTerm", "(I)Z"⟩, 8) := ⟨⟨by decide +kernel, by decide +kernel⟩, List.mem_of_getElem? (i := 339) (by decide +kernel), List.mem_of_getElem? (i := 395) (by decide +kernel), List.mem_of_getElem? (i := 396) (by decide +kernel)⟩
theorem lw_p14 : lw_okq (⟨"ThreadCharts$Rule", "signOf", "(I)I"⟩, 8) := ⟨⟨by decide +kernel, by decide +kernel⟩, List.mem_of_getElem? (i := 339) (by decide +kernel), List.mem_of_getElem? (i := 400) (by decide +kernel), List.mem_of_getElem? (i := 401) (by decide +kernel)⟩
theorem lw_p15 : lw_okq (⟨"ThreadCharts$Rule", "canRange", "(IIII)Z"⟩, 8) := ⟨⟨by decide +kernel, by decide +kernel⟩, List.mem_of_getElem? (i := 339) (by decide +kernel), List.mem_of_getElem? (i := 408) (by decide +kernel), List.mem_of_getElem? (i := 409) (by decide +kernel)⟩
def lw_privs_1 : List (MethodName × Nat) := [(⟨"ThreadCharts$Text", "add", "(I)V"⟩, 2), (⟨"ThreadCharts$Parser", "faultOf", "(LThreadCharts$Text;)I"⟩, 8), (⟨"ThreadCharts$Parser", "startOver", "()V"⟩, 8), (⟨"ThreadCharts$Text", "byteAt", "(I)I"⟩, 2), (⟨"ThreadCharts$Parser", "takeNumber", "(I)V"⟩, 8), (⟨"ThreadCharts$Parser", "takes", "(I)Z"⟩, 8), (⟨"ThreadCharts$Parser", "beginsForm", "(I)Z"⟩, 8), (⟨"ThreadCharts$Parser", "goesOn", "(II)Z"⟩, 8), (⟨"ThreadCharts$Parser", "takesLetter", "(III)Z"⟩, 8), (⟨"ThreadCharts$Parser", "followsPart", "(I)Z"⟩, 8), (⟨"ThreadCharts$Parser", "squares", "(I)Z"⟩, 8), (⟨"ThreadCharts", "ruleAt", "(I)LThreadCharts$Rule;"⟩, 17), (⟨"ThreadCharts$Rule", "kindOf", "(I)I"⟩, 8), (⟨"ThreadCharts$Rule", "hasTerm", "(I)Z"⟩, 8), (⟨"ThreadCharts$Rule", "signOf", "(I)I"⟩, 8), (⟨"ThreadCharts$Rule", "canRange", "(IIII)Z"⟩, 8)]
theorem lw_r1 : ∀ q ∈ lw_privs_1, lw_okq q := List.forall_mem_cons.mpr ⟨lw_p0, List.forall_mem_cons.mpr ⟨lw_p1, List.forall_mem_cons.mpr ⟨lw_p2, List.forall_mem_cons.mpr ⟨lw_p3, List.forall_mem_cons.mpr ⟨lw_p4, List.forall_mem_cons.mpr ⟨lw_p5, List.forall_mem_cons.mpr ⟨lw_p6, List.forall_mem_cons.mpr ⟨lw_p7, List.forall_mem_cons.mpr ⟨lw_p8, List.forall_mem_cons.mpr ⟨lw_p9, List.forall_mem_cons.mpr ⟨lw_p10, List.forall_mem_cons.mpr ⟨lw_p11, List.forall_mem_cons.mpr ⟨lw_p12, List.forall_mem_cons.mpr ⟨lw_p13, List.forall_mem_cons.mpr ⟨lw_p14, List.forall_mem_cons.mpr ⟨lw_p15, fun _ h => absurd h List.not_mem_nil⟩⟩⟩⟩⟩⟩⟩⟩⟩⟩⟩⟩⟩⟩⟩⟩
theorem lw_p16 : lw_okq (⟨"ThreadCharts$Rule", "putRange", "(IIII)V"⟩, 8) := ⟨⟨by decide +kernel, by decide +kernel⟩, List.mem_of_getElem? (i := 339) (by decide +kernel), List.mem_of_getElem? (i := 418) (by decide +kernel), List.mem_of_getElem? (i := 419) (by decide +kernel)⟩
theorem lw_p17 : lw_okq (⟨"ThreadCharts$Rule", "putOnScale", "(I)V"⟩, 8) := ⟨⟨by decide +kernel, by decide +kernel⟩, List.mem_of_getElem? (i := 339) (by decide +kernel), List.mem_of_getElem? (i := 434) (by decide +kernel), List.mem_of_getElem? (i := 435) (by decide +kernel)⟩
theorem lw_p18 : lw_okq (⟨"ThreadCharts$Rule", "hasMark", "(II)Z"⟩, 8) := ⟨⟨by decide +kernel, by decide +kernel⟩, List.mem_of_getElem? (i := 339) (by decide +kernel), List.mem_of_getElem? (i := 442) (by decide +kernel), List.mem_of_getElem? (i := 443) (by decide +kernel)⟩
theorem lw_p19 : lw_okq (⟨"ThreadCharts$Rule", "numberOf", "(II)I"⟩, 8) := ⟨⟨by decide +kernel, by decide +kernel⟩, List.mem_of_getElem? (i := 339) (by decide +kernel), List.mem_of_getElem? (i := 446) (by decide +kernel), List.mem_of_getElem? (i := 447) (by decide +kernel)⟩
theorem lw_p20 : lw_okq (⟨"ThreadCharts$Rule", "hasAllRanges", "()Z"⟩, 8) := ⟨⟨by decide +kernel, by decide +kernel⟩, List.mem_of_getElem? (i := 339) (by decide +kernel), List.mem_of_getElem? (i := 455) (by decide +kernel), List.mem_of_getElem? (i := 456) (by decide +kernel)⟩
theorem lw_p21 : lw_okq (⟨"ThreadCharts$Rule", "isOrder", "(I)Z"⟩, 8) := ⟨⟨by decide +kernel, by decide +kernel⟩, List.mem_of_getElem? (i := 339) (by decide +kernel), List.mem_of_getElem? (i := 459) (by decide +kernel), List.mem_of_getElem? (i := 460) (by decide +kernel)⟩
theorem lw_p22 : lw_okq (⟨"ThreadCharts$Chart", "putOrder", "(I)V"⟩, 11) := ⟨⟨by decide +kernel, by decide +kernel⟩, List.mem_of_getElem? (i := 465) (by decide +kernel), List.mem_of_getElem? (i := 540) (by decide +kernel), List.mem_of_getElem? (i := 541) (by decide +kernel)⟩
theorem lw_p23 : lw_okq (⟨"ThreadCharts$Rule", "leastOf", "(I)I"⟩, 8) := ⟨⟨by decide +kernel, by decide +kernel⟩, List.mem_of_getElem? (i := 339) (by decide +kernel), List.mem_of_getElem? (i := 544) (by decide +kernel), List.mem_of_getElem? (i := 545) (by decide +kernel)⟩
theorem lw_p24 : lw_okq (⟨"ThreadCharts$Rule", "signedOf", "(II)I"⟩, 8) := ⟨⟨by decide +kernel, by decide +kernel⟩, List.mem_of_getElem? (i := 339) (by decide +kernel), List.mem_of_getElem? (i := 548) (by decide +kernel), List.mem_of_getElem? (i := 549) (by decide +kernel)⟩
theorem lw_p25 : lw_okq (⟨"ThreadCharts$Rule", "lastMarkOf", "(I)I"⟩, 8) := ⟨⟨by decide +kernel, by decide +kernel⟩, List.mem_of_getElem? (i := 339) (by decide +kernel), List.mem_of_getElem? (i := 552) (by decide +kernel), List.mem_of_getElem? (i := 553) (by decide +kernel)⟩
theorem lw_p26 : lw_okq (⟨"ThreadCharts$Rule", "greatestOf", "(I)I"⟩, 8) := ⟨⟨by decide +kernel, by decide +kernel⟩, List.mem_of_getElem? (i := 339) (by decide +kernel), List.mem_of_getElem? (i := 557) (by decide +kernel), List.mem_of_getElem? (i := 558) (by decide +kernel)⟩
theorem lw_p27 : lw_okq (⟨"ThreadCharts$Chart", "putModuli", "(II)V"⟩, 11) := ⟨⟨by decide +kernel, by decide +kernel⟩, List.mem_of_getElem? (i := 465) (by decide +kernel), List.mem_of_getElem? (i := 564) (by decide +kernel), List.mem_of_getElem? (i := 565) (by decide +kernel)⟩
theorem lw_p28 : lw_okq (⟨"ThreadCharts$Chart", "hasPage", "(I)Z"⟩, 11) := ⟨⟨by decide +kernel, by decide +kernel⟩, List.mem_of_getElem? (i := 465) (by decide +kernel), List.mem_of_getElem? (i := 568) (by decide +kernel), List.mem_of_getElem? (i := 569) (by decide +kernel)⟩
theorem lw_p29 : lw_okq (⟨"ThreadCharts", "chartAt", "(I)LThreadCharts$Chart;"⟩, 17) := ⟨⟨by decide +kernel, by decide +kernel⟩, List.mem_of_getElem? (i := 17) (by decide +kernel), List.mem_of_getElem? (i := 576) (by decide +kernel), List.mem_of_getElem? (i := 577) (by decide +kernel)⟩
theorem lw_p30 : lw_okq (⟨"ThreadCharts$Chart", "hasMarks", "(I)Z"⟩, 11) := ⟨⟨by decide +kernel, by decide +kernel⟩, List.mem_of_getElem? (i := 465) (by decide +kernel), List.mem_of_getElem? (i := 580) (by decide +kernel), List.mem_of_getElem? (i := 581) (by decide +kernel)⟩
theorem lw_p31 : lw_okq (⟨"ThreadCharts", "readAsKnown", "(LThreadCharts$Chart;II)J"⟩, 17) := ⟨⟨by decide +kernel, by decide +kernel⟩, List.mem_of_getElem? (i := 17) (by decide +kernel), List.mem_of_getElem? (i := 589) (by decide +kernel), List.mem_of_getElem? (i := 590) (by decide +kernel)⟩
def lw_privs_2 : List (MethodName × Nat) := [(⟨"ThreadCharts$Rule", "putRange", "(IIII)V"⟩, 8), (⟨"ThreadCharts$Rule", "putOnScale", "(I)V"⟩, 8), (⟨"ThreadCharts$Rule", "hasMark", "(II)Z"⟩, 8), (⟨"ThreadCharts$Rule", "numberOf", "(II)I"⟩, 8), (⟨"ThreadCharts$Rule", "hasAllRanges", "()Z"⟩, 8), (⟨"ThreadCharts$Rule", "isOrder", "(I)Z"⟩, 8), (⟨"ThreadCharts$Chart", "putOrder", "(I)V"⟩, 11), (⟨"ThreadCharts$Rule", "leastOf", "(I)I"⟩, 8), (⟨"ThreadCharts$Rule", "signedOf", "(II)I"⟩, 8), (⟨"ThreadCharts$Rule", "lastMarkOf", "(I)I"⟩, 8), (⟨"ThreadCharts$Rule", "greatestOf", "(I)I"⟩, 8), (⟨"ThreadCharts$Chart", "putModuli", "(II)V"⟩, 11), (⟨"ThreadCharts$Chart", "hasPage", "(I)Z"⟩, 11), (⟨"ThreadCharts", "chartAt", "(I)LThreadCharts$Chart;"⟩, 17), (⟨"ThreadCharts$Chart", "hasMarks", "(I)Z"⟩, 11), (⟨"ThreadCharts", "readAsKnown", "(LThreadCharts$Chart;II)J"⟩, 17)]
theorem lw_r2 : ∀ q ∈ lw_privs_2, lw_okq q := List.forall_mem_cons.mpr ⟨lw_p16, List.forall_mem_cons.mpr ⟨lw_p17, List.forall_mem_cons.mpr ⟨lw_p18, List.forall_mem_cons.mpr ⟨lw_p19, List.forall_mem_cons.mpr ⟨lw_p20, List.forall_mem_cons.mpr ⟨lw_p21, List.forall_mem_cons.mpr ⟨lw_p22, List.forall_mem_cons.mpr ⟨lw_p23, List.forall_mem_cons.mpr ⟨lw_p24, List.forall_mem_cons.mpr ⟨lw_p25, List.forall_mem_cons.mpr ⟨lw_p26, List.forall_mem_cons.mpr ⟨lw_p27, List.forall_mem_cons.mpr ⟨lw_p28, List.forall_mem_cons.mpr ⟨lw_p29, List.forall_mem_cons.mpr ⟨lw_p30, List.forall_mem_cons.mpr ⟨lw_p31, fun _ h => absurd h List.not_mem_nil⟩⟩⟩⟩⟩⟩⟩⟩⟩⟩⟩⟩⟩⟩⟩⟩
theorem lw_p32 : lw_okq (⟨"ThreadCharts", "layAsKnown", "(LThreadCharts$Chart;II)V"⟩, 17) := ⟨⟨by decide +kernel, by decide +kernel⟩, List.mem_of_getElem? (i := 17) (by decide +kernel), List.mem_of_getElem? (i := 593) (by decide +kernel), List.mem_of_getElem? (i := 594) (by decide +kernel)⟩
theorem lw_p33 : lw_okq (⟨"ThreadCharts$Chart", "markAt", "(II)I"⟩, 11) := ⟨⟨by decide +kernel, by decide +kernel⟩, List.mem_of_getElem? (i := 465) (by decide +kernel), List.mem_of_getElem? (i := 597) (by decide +kernel), List.mem_of_getElem? (i := 598) (by decide +kernel)⟩
theorem lw_p34 : lw_okq (⟨"ThreadCharts$Errata", "numberOn", "(IIII)I"⟩, 6) := ⟨⟨by decide +kernel, by decide +kernel⟩, List.mem_of_getElem? (i := 81) (by decide +kernel), List.mem_of_getElem? (i := 601) (by decide +kernel), List.mem_of_getElem? (i := 602) (by decide +kernel)⟩
theorem lw_p35 : lw_okq (⟨"ThreadCharts$Walk", "along", "(LThreadCharts$Chart;[JI)V"⟩, 4) := ⟨⟨by decide +kernel, by decide +kernel⟩, List.mem_of_getElem? (i := 147) (by decide +kernel), List.mem_of_getElem? (i := 607) (by decide +kernel), List.mem_of_getElem? (i := 608) (by decide +kernel)⟩
theorem lw_p36 : lw_okq (⟨"ThreadCharts$Paper", "lies", "(J)J"⟩, 3) := ⟨⟨by decide +kernel, by decide +kernel⟩, List.mem_of_getElem? (i := 474) (by decide +kernel), List.mem_of_getElem? (i := 611) (by decide +kernel), List.mem_of_getElem? (i := 612) (by decide +kernel)⟩
theorem lw_p37 : lw_okq (⟨"ThreadCharts$Chart", "meets", "(IJJ)J"⟩, 11) := ⟨⟨by decide +kernel, by decide +kernel⟩, List.mem_of_getElem? (i := 465) (by decide +kernel), List.mem_of_getElem? (i := 616) (by decide +kernel), List.mem_of_getElem? (i := 617) (by decide +kernel)⟩
theorem lw_p38 : lw_okq (⟨"ThreadCharts$Chart", "midOf", "(I)J"⟩, 11) := ⟨⟨by decide +kernel, by decide +kernel⟩, List.mem_of_getElem? (i := 465) (by decide +kernel), List.mem_of_getElem? (i := 620) (by decide +kernel), List.mem_of_getElem? (i := 621) (by decide +kernel)⟩
theorem lw_p39 : lw_okq (⟨"ThreadCharts$Paper", "placeReadAt", "(J)J"⟩, 3) := ⟨⟨by decide +kernel, by decide +kernel⟩, List.mem_of_getElem? (i := 474) (by decide +kernel), List.mem_of_getElem? (i := 625) (by decide +kernel), List.mem_of_getElem? (i := 626) (by decide +kernel)⟩
theorem lw_p40 : lw_okq (⟨"ThreadCharts$Chart", "sumAt", "(IJ)J"⟩, 11) := ⟨⟨by decide +kernel, by decide +kernel⟩, List.mem_of_getElem? (i := 465) (by decide +kernel), List.mem_of_getElem? (i := 636) (by decide +kernel), List.mem_of_getElem? (i := 637) (by decide +kernel)⟩
theorem lw_p41 : lw_okq (⟨"ThreadCharts$Rule", "tenthsOf", "(J)I"⟩, 8) := ⟨⟨by decide +kernel, by decide +kernel⟩, List.mem_of_getElem? (i := 339) (by decide +kernel), List.mem_of_getElem? (i := 640) (by decide +kernel), List.mem_of_getElem? (i := 641) (by decide +kernel)⟩
theorem lw_p42 : lw_okq (⟨"ThreadCharts", "exactSum", "(LThreadCharts$Chart;)I"⟩, 17) := ⟨⟨by decide +kernel, by decide +kernel⟩, List.mem_of_getElem? (i := 17) (by decide +kernel), List.mem_of_getElem? (i := 645) (by decide +kernel), List.mem_of_getElem? (i := 646) (by decide +kernel)⟩
theorem lw_p43 : lw_okq (⟨"ThreadCharts", "layAsCut", "(LThreadCharts$Chart;I)V"⟩, 17) := ⟨⟨by decide +kernel, by decide +kernel⟩, List.mem_of_getElem? (i := 17) (by decide +kernel), List.mem_of_getElem? (i := 649) (by decide +kernel), List.mem_of_getElem? (i := 650) (by decide +kernel)⟩
theorem lw_p44 : lw_okq (⟨"ThreadCharts$Chart", "lastSumOnFlat", "([JI)J"⟩, 11) := ⟨⟨by decide +kernel, by decide +kernel⟩, List.mem_of_getElem? (i := 465) (by decide +kernel), List.mem_of_getElem? (i := 665) (by decide +kernel), List.mem_of_getElem? (i := 666) (by decide +kernel)⟩
theorem lw_p45 : lw_okq (⟨"ThreadCharts$Chart", "tallWith", "(III)J"⟩, 11) := ⟨⟨by decide +kernel, by decide +kernel⟩, List.mem_of_getElem? (i := 465) (by decide +kernel), List.mem_of_getElem? (i := 676) (by decide +kernel), List.mem_of_getElem? (i := 677) (by decide +kernel)⟩
theorem lw_p46 : lw_okq (⟨"ThreadCharts$OrderSearch", "look", "(LThreadCharts$Chart;I)V"⟩, 4) := ⟨⟨by decide +kernel, by decide +kernel⟩, List.mem_of_getElem? (i := 171) (by decide +kernel), List.mem_of_getElem? (i := 693) (by decide +kernel), List.mem_of_getElem? (i := 694) (by decide +kernel)⟩
theorem lw_p47 : lw_okq (⟨"ThreadCharts$OrderSearch", "greatestWidth", "(LThreadCharts$Chart;I)J"⟩, 4) := ⟨⟨by decide +kernel, by decide +kernel⟩, List.mem_of_getElem? (i := 171) (by decide +kernel), List.mem_of_getElem? (i := 697) (by decide +kernel), List.mem_of_getElem? (i := 698) (by decide +kernel)⟩
def lw_privs_3 : List (MethodName × Nat) := [(⟨"ThreadCharts", "layAsKnown", "(LThreadCharts$Chart;II)V"⟩, 17), (⟨"ThreadCharts$Chart", "markAt", "(II)I"⟩, 11), (⟨"ThreadCharts$Errata", "numberOn", "(IIII)I"⟩, 6), (⟨"ThreadCharts$Walk", "along", "(LThreadCharts$Chart;[JI)V"⟩, 4), (⟨"ThreadCharts$Paper", "lies", "(J)J"⟩, 3), (⟨"ThreadCharts$Chart", "meets", "(IJJ)J"⟩, 11), (⟨"ThreadCharts$Chart", "midOf", "(I)J"⟩, 11), (⟨"ThreadCharts$Paper", "placeReadAt", "(J)J"⟩, 3), (⟨"ThreadCharts$Chart", "sumAt", "(IJ)J"⟩, 11), (⟨"ThreadCharts$Rule", "tenthsOf", "(J)I"⟩, 8), (⟨"ThreadCharts", "exactSum", "(LThreadCharts$Chart;)I"⟩, 17), (⟨"ThreadCharts", "layAsCut", "(LThreadCharts$Chart;I)V"⟩, 17), (⟨"ThreadCharts$Chart", "lastSumOnFlat", "([JI)J"⟩, 11), (⟨"ThreadCharts$Chart", "tallWith", "(III)J"⟩, 11), (⟨"ThreadCharts$OrderSearch", "look", "(LThreadCharts$Chart;I)V"⟩, 4), (⟨"ThreadCharts$OrderSearch", "greatestWidth", "(LThreadCharts$Chart;I)J"⟩, 4)]
theorem lw_r3 : ∀ q ∈ lw_privs_3, lw_okq q := List.forall_mem_cons.mpr ⟨lw_p32, List.forall_mem_cons.mpr ⟨lw_p33, List.forall_mem_cons.mpr ⟨lw_p34, List.forall_mem_cons.mpr ⟨lw_p35, List.forall_mem_cons.mpr ⟨lw_p36, List.forall_mem_cons.mpr ⟨lw_p37, List.forall_mem_cons.mpr ⟨lw_p38, List.forall_mem_cons.mpr ⟨lw_p39, List.forall_mem_cons.mpr ⟨lw_p40, List.forall_mem_cons.mpr ⟨lw_p41, List.forall_mem_cons.mpr ⟨lw_p42, List.forall_mem_cons.mpr ⟨lw_p43, List.forall_mem_cons.mpr ⟨lw_p44, List.forall_mem_cons.mpr ⟨lw_p45, List.forall_mem_cons.mpr ⟨lw_p46, List.forall_mem_cons.mpr ⟨lw_p47, fun _ h => absurd h List.not_mem_nil⟩⟩⟩⟩⟩⟩⟩⟩⟩⟩⟩⟩⟩⟩⟩⟩
theorem lw_p48 : lw_okq (⟨"ThreadCharts$OrderSearch", "digitsOfTried", "(I)I"⟩, 4) := ⟨⟨by decide +kernel, by decide +kernel⟩, List.mem_of_getElem? (i := 171) (by decide +kernel), List.mem_of_getElem? (i := 705) (by decide +kernel), List.mem_of_getElem? (i := 706) (by decide +kernel)⟩
theorem lw_p49 : lw_okq (⟨"ThreadCharts$OrderSearch", "goToNext", "(I)Z"⟩, 4) := ⟨⟨by decide +kernel, by decide +kernel⟩, List.mem_of_getElem? (i := 171) (by decide +kernel), List.mem_of_getElem? (i := 709) (by decide +kernel), List.mem_of_getElem? (i := 710) (by decide +kernel)⟩
theorem lw_p50 : lw_okq (⟨"ThreadCharts$OrderSearch", "swap", "(II)V"⟩, 4) := ⟨⟨by decide +kernel, by decide +kernel⟩, List.mem_of_getElem? (i := 171) (by decide +kernel), List.mem_of_getElem? (i := 713) (by decide +kernel), List.mem_of_getElem? (i := 714) (by decide +kernel)⟩
theorem lw_p51 : lw_okq (⟨"ThreadCharts", "isListed", "(I)Z"⟩, 17) := ⟨⟨by decide +kernel, by decide +kernel⟩, List.mem_of_getElem? (i := 17) (by decide +kernel), List.mem_of_getElem? (i := 721) (by decide +kernel), List.mem_of_getElem? (i := 722) (by decide +kernel)⟩
theorem lw_p52 : lw_okq (⟨"ThreadCharts$Chart", "finestOf", "(II[II)I"⟩, 11) := ⟨⟨by decide +kernel, by decide +kernel⟩, List.mem_of_getElem? (i := 465) (by decide +kernel), List.mem_of_getElem? (i := 733) (by decide +kernel), List.mem_of_getElem? (i := 734) (by decide +kernel)⟩
theorem lw_p53 : lw_okq (⟨"ThreadCharts$Paper", "put", "(III)V"⟩, 3) := ⟨⟨by decide +kernel, by decide +kernel⟩, List.mem_of_getElem? (i := 474) (by decide +kernel), List.mem_of_getElem? (i := 748) (by decide +kernel), List.mem_of_getElem? (i := 749) (by decide +kernel)⟩
theorem lw_p54 : lw_okq (⟨"ThreadCharts$Reports", "forgetDues", "()V"⟩, 9) := ⟨⟨by decide +kernel, by decide +kernel⟩, List.mem_of_getElem? (i := 107) (by decide +kernel), List.mem_of_getElem? (i := 752) (by decide +kernel), List.mem_of_getElem? (i := 753) (by decide +kernel)⟩
theorem lw_p55 : lw_okq (⟨"ThreadCharts$Errata", "isFull", "()Z"⟩, 6) := ⟨⟨by decide +kernel, by decide +kernel⟩, List.mem_of_getElem? (i := 81) (by decide +kernel), List.mem_of_getElem? (i := 773) (by decide +kernel), List.mem_of_getElem? (i := 774) (by decide +kernel)⟩
theorem lw_p56 : lw_okq (⟨"ThreadCharts$Errata", "add", "(IIIII)V"⟩, 6) := ⟨⟨by decide +kernel, by decide +kernel⟩, List.mem_of_getElem? (i := 81) (by decide +kernel), List.mem_of_getElem? (i := 779) (by decide +kernel), List.mem_of_getElem? (i := 780) (by decide +kernel)⟩
theorem lw_p57 : lw_okq (⟨"ThreadCharts$Reports", "isFull", "()Z"⟩, 9) := ⟨⟨by decide +kernel, by decide +kernel⟩, List.mem_of_getElem? (i := 107) (by decide +kernel), List.mem_of_getElem? (i := 791) (by decide +kernel), List.mem_of_getElem? (i := 792) (by decide +kernel)⟩
theorem lw_p58 : lw_okq (⟨"ThreadCharts$Reports", "add", "(IIIII)V"⟩, 9) := ⟨⟨by decide +kernel, by decide +kernel⟩, List.mem_of_getElem? (i := 107) (by decide +kernel), List.mem_of_getElem? (i := 795) (by decide +kernel), List.mem_of_getElem? (i := 796) (by decide +kernel)⟩
theorem lw_p59 : lw_okq (⟨"ThreadCharts$Reports", "has", "(I)Z"⟩, 9) := ⟨⟨by decide +kernel, by decide +kernel⟩, List.mem_of_getElem? (i := 107) (by decide +kernel), List.mem_of_getElem? (i := 804) (by decide +kernel), List.mem_of_getElem? (i := 805) (by decide +kernel)⟩
theorem lw_p60 : lw_okq (⟨"ThreadCharts", "refreshDues", "()V"⟩, 17) := ⟨⟨by decide +kernel, by decide +kernel⟩, List.mem_of_getElem? (i := 17) (by decide +kernel), List.mem_of_getElem? (i := 811) (by decide +kernel), List.mem_of_getElem? (i := 812) (by decide +kernel)⟩
theorem lw_p61 : lw_okq (⟨"ThreadCharts$Reports", "isBad", "(II)Z"⟩, 9) := ⟨⟨by decide +kernel, by decide +kernel⟩, List.mem_of_getElem? (i := 107) (by decide +kernel), List.mem_of_getElem? (i := 815) (by decide +kernel), List.mem_of_getElem? (i := 816) (by decide +kernel)⟩
theorem lw_p62 : lw_okq (⟨"ThreadCharts$Reports", "habitOf", "(I)I"⟩, 9) := ⟨⟨by decide +kernel, by decide +kernel⟩, List.mem_of_getElem? (i := 107) (by decide +kernel), List.mem_of_getElem? (i := 820) (by decide +kernel), List.mem_of_getElem? (i := 821) (by decide +kernel)⟩
theorem lw_p63 : lw_okq (⟨"ThreadCharts", "sortReports", "(LThreadCharts$Chart;I)V"⟩, 17) := ⟨⟨by decide +kernel, by decide +kernel⟩, List.mem_of_getElem? (i := 17) (by decide +kernel), List.mem_of_getElem? (i := 839) (by decide +kernel), List.mem_of_getElem? (i := 840) (by decide +kernel)⟩
def lw_privs_4 : List (MethodName × Nat) := [(⟨"ThreadCharts$OrderSearch", "digitsOfTried", "(I)I"⟩, 4), (⟨"ThreadCharts$OrderSearch", "goToNext", "(I)Z"⟩, 4), (⟨"ThreadCharts$OrderSearch", "swap", "(II)V"⟩, 4), (⟨"ThreadCharts", "isListed", "(I)Z"⟩, 17), (⟨"ThreadCharts$Chart", "finestOf", "(II[II)I"⟩, 11), (⟨"ThreadCharts$Paper", "put", "(III)V"⟩, 3), (⟨"ThreadCharts$Reports", "forgetDues", "()V"⟩, 9), (⟨"ThreadCharts$Errata", "isFull", "()Z"⟩, 6), (⟨"ThreadCharts$Errata", "add", "(IIIII)V"⟩, 6), (⟨"ThreadCharts$Reports", "isFull", "()Z"⟩, 9), (⟨"ThreadCharts$Reports", "add", "(IIIII)V"⟩, 9), (⟨"ThreadCharts$Reports", "has", "(I)Z"⟩, 9), (⟨"ThreadCharts", "refreshDues", "()V"⟩, 17), (⟨"ThreadCharts$Reports", "isBad", "(II)Z"⟩, 9), (⟨"ThreadCharts$Reports", "habitOf", "(I)I"⟩, 9), (⟨"ThreadCharts", "sortReports", "(LThreadCharts$Chart;I)V"⟩, 17)]
theorem lw_r4 : ∀ q ∈ lw_privs_4, lw_okq q := List.forall_mem_cons.mpr ⟨lw_p48, List.forall_mem_cons.mpr ⟨lw_p49, List.forall_mem_cons.mpr ⟨lw_p50, List.forall_mem_cons.mpr ⟨lw_p51, List.forall_mem_cons.mpr ⟨lw_p52, List.forall_mem_cons.mpr ⟨lw_p53, List.forall_mem_cons.mpr ⟨lw_p54, List.forall_mem_cons.mpr ⟨lw_p55, List.forall_mem_cons.mpr ⟨lw_p56, List.forall_mem_cons.mpr ⟨lw_p57, List.forall_mem_cons.mpr ⟨lw_p58, List.forall_mem_cons.mpr ⟨lw_p59, List.forall_mem_cons.mpr ⟨lw_p60, List.forall_mem_cons.mpr ⟨lw_p61, List.forall_mem_cons.mpr ⟨lw_p62, List.forall_mem_cons.mpr ⟨lw_p63, fun _ h => absurd h List.not_mem_nil⟩⟩⟩⟩⟩⟩⟩⟩⟩⟩⟩⟩⟩⟩⟩⟩
theorem lw_p64 : lw_okq (⟨"ThreadCharts$HeapSearch", "startOver", "()V"⟩, 9) := ⟨⟨by decide +kernel, by decide +kernel⟩, List.mem_of_getElem? (i := 192) (by decide +kernel), List.mem_of_getElem? (i := 843) (by decide +kernel), List.mem_of_getElem? (i := 844) (by decide +kernel)⟩
theorem lw_p65 : lw_okq (⟨"ThreadCharts$HeapSearch", "add", "(LThreadCharts$Chart;IZ)V"⟩, 9) := ⟨⟨by decide +kernel, by decide +kernel⟩, List.mem_of_getElem? (i := 192) (by decide +kernel), List.mem_of_getElem? (i := 848) (by decide +kernel), List.mem_of_getElem? (i := 849) (by decide +kernel)⟩
theorem lw_p66 : lw_okq (⟨"ThreadCharts$HeapSearch", "look", "(I)Z"⟩, 9) := ⟨⟨by decide +kernel, by decide +kernel⟩, List.mem_of_getElem? (i := 192) (by decide +kernel), List.mem_of_getElem? (i := 854) (by decide +kernel), List.mem_of_getElem? (i := 855) (by decide +kernel)⟩
theorem lw_p67 : lw_okq (⟨"ThreadCharts$HeapSearch", "findCandidates", "()Z"⟩, 9) := ⟨⟨by decide +kernel, by decide +kernel⟩, List.mem_of_getElem? (i := 192) (by decide +kernel), List.mem_of_getElem? (i := 858) (by decide +kernel), List.mem_of_getElem? (i := 859) (by decide +kernel)⟩
theorem lw_p68 : lw_okq (⟨"ThreadCharts$HeapSearch", "weighBadOnes", "(I)Z"⟩, 9) := ⟨⟨by decide +kernel, by decide +kernel⟩, List.mem_of_getElem? (i := 192) (by decide +kernel), List.mem_of_getElem? (i := 862) (by decide +kernel), List.mem_of_getElem? (i := 863) (by decide +kernel)⟩
theorem lw_p69 : lw_okq (⟨"ThreadCharts$HeapSearch", "bitOf", "(I)I"⟩, 9) := ⟨⟨by decide +kernel, by decide +kernel⟩, List.mem_of_getElem? (i := 192) (by decide +kernel), List.mem_of_getElem? (i := 866) (by decide +kernel), List.mem_of_getElem? (i := 867) (by decide +kernel)⟩
theorem lw_p70 : lw_okq (⟨"ThreadCharts$HeapSearch", "hitsAllBadOnes", "(I)Z"⟩, 9) := ⟨⟨by decide +kernel, by decide +kernel⟩, List.mem_of_getElem? (i := 192) (by decide +kernel), List.mem_of_getElem? (i := 876) (by decide +kernel), List.mem_of_getElem? (i := 877) (by decide +kernel)⟩
theorem lw_p71 : lw_okq (⟨"ThreadCharts$HeapSearch", "suspectOfFirst", "(I)I"⟩, 9) := ⟨⟨by decide +kernel, by decide +kernel⟩, List.mem_of_getElem? (i := 192) (by decide +kernel), List.mem_of_getElem? (i := 880) (by decide +kernel), List.mem_of_getElem? (i := 881) (by decide +kernel)⟩
theorem lw_p72 : lw_okq (⟨"ThreadChartsModel", "reads", "()I"⟩, 59) := ⟨⟨by decide +kernel, by decide +kernel⟩, List.mem_of_getElem? (i := 888) (by decide +kernel), List.mem_of_getElem? (i := 1087) (by decide +kernel), List.mem_of_getElem? (i := 1088) (by decide +kernel)⟩
theorem lw_p73 : lw_okq (⟨"ThreadChartsModel", "next", "()V"⟩, 59) := ⟨⟨by decide +kernel, by decide +kernel⟩, List.mem_of_getElem? (i := 888) (by decide +kernel), List.mem_of_getElem? (i := 1091) (by decide +kernel), List.mem_of_getElem? (i := 1092) (by decide +kernel)⟩
theorem lw_p74 : lw_okq (⟨"ThreadChartsModel", "whole", "()Z"⟩, 59) := ⟨⟨by decide +kernel, by decide +kernel⟩, List.mem_of_getElem? (i := 888) (by decide +kernel), List.mem_of_getElem? (i := 1096) (by decide +kernel), List.mem_of_getElem? (i := 1097) (by decide +kernel)⟩
theorem lw_p75 : lw_okq (⟨"ThreadChartsModel", "form", "(I)Z"⟩, 59) := ⟨⟨by decide +kernel, by decide +kernel⟩, List.mem_of_getElem? (i := 888) (by decide +kernel), List.mem_of_getElem? (i := 1100) (by decide +kernel), List.mem_of_getElem? (i := 1101) (by decide +kernel)⟩
theorem lw_p76 : lw_okq (⟨"ThreadChartsModel", "isSign", "(I)Z"⟩, 59) := ⟨⟨by decide +kernel, by decide +kernel⟩, List.mem_of_getElem? (i := 888) (by decide +kernel), List.mem_of_getElem? (i := 1104) (by decide +kernel), List.mem_of_getElem? (i := 1105) (by decide +kernel)⟩
theorem lw_p77 : lw_okq (⟨"ThreadChartsModel", "isNew", "()Z"⟩, 59) := ⟨⟨by decide +kernel, by decide +kernel⟩, List.mem_of_getElem? (i := 888) (by decide +kernel), List.mem_of_getElem? (i := 1108) (by decide +kernel), List.mem_of_getElem? (i := 1109) (by decide +kernel)⟩
theorem lw_p78 : lw_okq (⟨"ThreadChartsModel", "part", "()Z"⟩, 59) := ⟨⟨by decide +kernel, by decide +kernel⟩, List.mem_of_getElem? (i := 888) (by decide +kernel), List.mem_of_getElem? (i := 1112) (by decide +kernel), List.mem_of_getElem? (i := 1113) (by decide +kernel)⟩
theorem lw_p79 : lw_okq (⟨"ThreadChartsModel", "isTerm", "(II)Z"⟩, 59) := ⟨⟨by decide +kernel, by decide +kernel⟩, List.mem_of_getElem? (i := 888) (by decide +kernel), List.mem_of_getElem? (i := 1127) (by decide +kernel), List.mem_of_getElem? (i := 1128) (by decide +kernel)⟩
def lw_privs_5 : List (MethodName × Nat) := [(⟨"ThreadCharts$HeapSearch", "startOver", "()V"⟩, 9), (⟨"ThreadCharts$HeapSearch", "add", "(LThreadCharts$Chart;IZ)V"⟩, 9), (⟨"ThreadCharts$HeapSearch", "look", "(I)Z"⟩, 9), (⟨"ThreadCharts$HeapSearch", "findCandidates", "()Z"⟩, 9), (⟨"ThreadCharts$HeapSearch", "weighBadOnes", "(I)Z"⟩, 9), (⟨"ThreadCharts$HeapSearch", "bitOf", "(I)I"⟩, 9), (⟨"ThreadCharts$HeapSearch", "hitsAllBadOnes", "(I)Z"⟩, 9), (⟨"ThreadCharts$HeapSearch", "suspectOfFirst", "(I)I"⟩, 9), (⟨"ThreadChartsModel", "reads", "()I"⟩, 59), (⟨"ThreadChartsModel", "next", "()V"⟩, 59), (⟨"ThreadChartsModel", "whole", "()Z"⟩, 59), (⟨"ThreadChartsModel", "form", "(I)Z"⟩, 59), (⟨"ThreadChartsModel", "isSign", "(I)Z"⟩, 59), (⟨"ThreadChartsModel", "isNew", "()Z"⟩, 59), (⟨"ThreadChartsModel", "part", "()Z"⟩, 59), (⟨"ThreadChartsModel", "isTerm", "(II)Z"⟩, 59)]
theorem lw_r5 : ∀ q ∈ lw_privs_5, lw_okq q := List.forall_mem_cons.mpr ⟨lw_p64, List.forall_mem_cons.mpr ⟨lw_p65, List.forall_mem_cons.mpr ⟨lw_p66, List.forall_mem_cons.mpr ⟨lw_p67, List.forall_mem_cons.mpr ⟨lw_p68, List.forall_mem_cons.mpr ⟨lw_p69, List.forall_mem_cons.mpr ⟨lw_p70, List.forall_mem_cons.mpr ⟨lw_p71, List.forall_mem_cons.mpr ⟨lw_p72, List.forall_mem_cons.mpr ⟨lw_p73, List.forall_mem_cons.mpr ⟨lw_p74, List.forall_mem_cons.mpr ⟨lw_p75, List.forall_mem_cons.mpr ⟨lw_p76, List.forall_mem_cons.mpr ⟨lw_p77, List.forall_mem_cons.mpr ⟨lw_p78, List.forall_mem_cons.mpr ⟨lw_p79, fun _ h => absurd h List.not_mem_nil⟩⟩⟩⟩⟩⟩⟩⟩⟩⟩⟩⟩⟩⟩⟩⟩
theorem lw_p80 : lw_okq (⟨"ThreadChartsModel", "valueOf", "(III)I"⟩, 59) := ⟨⟨by decide +kernel, by decide +kernel⟩, List.mem_of_getElem? (i := 888) (by decide +kernel), List.mem_of_getElem? (i := 1149) (by decide +kernel), List.mem_of_getElem? (i := 1150) (by decide +kernel)⟩
theorem lw_p81 : lw_okq (⟨"ThreadChartsModel", "isChart", "(I)Z"⟩, 59) := ⟨⟨by decide +kernel, by decide +kernel⟩, List.mem_of_getElem? (i := 888) (by decide +kernel), List.mem_of_getElem? (i := 1166) (by decide +kernel), List.mem_of_getElem? (i := 1167) (by decide +kernel)⟩
theorem lw_p82 : lw_okq (⟨"ThreadChartsModel", "back", "(IJ)J"⟩, 59) := ⟨⟨by decide +kernel, by decide +kernel⟩, List.mem_of_getElem? (i := 888) (by decide +kernel), List.mem_of_getElem? (i := 1183) (by decide +kernel), List.mem_of_getElem? (i := 1184) (by decide +kernel)⟩
theorem lw_p83 : lw_okq (⟨"ThreadChartsModel", "swells", "(IJ)J"⟩, 59) := ⟨⟨by decide +kernel, by decide +kernel⟩, List.mem_of_getElem? (i := 888) (by decide +kernel), List.mem_of_getElem? (i := 1189) (by decide +kernel), List.mem_of_getElem? (i := 1190) (by decide +kernel)⟩
theorem lw_p84 : lw_okq (⟨"ThreadChartsModel", "takes", "([II)V"⟩, 59) := ⟨⟨by decide +kernel, by decide +kernel⟩, List.mem_of_getElem? (i := 888) (by decide +kernel), List.mem_of_getElem? (i := 1200) (by decide +kernel), List.mem_of_getElem? (i := 1201) (by decide +kernel)⟩
theorem lw_p85 : lw_okq (⟨"ThreadChartsModel", "goes", "(II)J"⟩, 59) := ⟨⟨by decide +kernel, by decide +kernel⟩, List.mem_of_getElem? (i := 888) (by decide +kernel), List.mem_of_getElem? (i := 1204) (by decide +kernel), List.mem_of_getElem? (i := 1205) (by decide +kernel)⟩
theorem lw_p86 : lw_okq (⟨"ThreadChartsModel", "numberOf", "(IIII)I"⟩, 59) := ⟨⟨by decide +kernel, by decide +kernel⟩, List.mem_of_getElem? (i := 888) (by decide +kernel), List.mem_of_getElem? (i := 1208) (by decide +kernel), List.mem_of_getElem? (i := 1209) (by decide +kernel)⟩
theorem lw_p87 : lw_okq (⟨"ThreadChartsModel", "pagesOf", "(I)I"⟩, 59) := ⟨⟨by decide +kernel, by decide +kernel⟩, List.mem_of_getElem? (i := 888) (by decide +kernel), List.mem_of_getElem? (i := 1212) (by decide +kernel), List.mem_of_getElem? (i := 1213) (by decide +kernel)⟩
theorem lw_p88 : lw_okq (⟨"ThreadChartsModel", "mid", "(II)I"⟩, 59) := ⟨⟨by decide +kernel, by decide +kernel⟩, List.mem_of_getElem? (i := 888) (by decide +kernel), List.mem_of_getElem? (i := 1216) (by decide +kernel), List.mem_of_getElem? (i := 1217) (by decide +kernel)⟩
theorem lw_p89 : lw_okq (⟨"ThreadChartsModel", "sumAt", "(IIJ)J"⟩, 59) := ⟨⟨by decide +kernel, by decide +kernel⟩, List.mem_of_getElem? (i := 888) (by decide +kernel), List.mem_of_getElem? (i := 1220) (by decide +kernel), List.mem_of_getElem? (i := 1221) (by decide +kernel)⟩
theorem lw_p90 : lw_okq (⟨"ThreadChartsModel", "tenths", "(IJ)I"⟩, 59) := ⟨⟨by decide +kernel, by decide +kernel⟩, List.mem_of_getElem? (i := 888) (by decide +kernel), List.mem_of_getElem? (i := 1224) (by decide +kernel), List.mem_of_getElem? (i := 1225) (by decide +kernel)⟩
theorem lw_p91 : lw_okq (⟨"ThreadChartsModel", "spans", "(II)V"⟩, 59) := ⟨⟨by decide +kernel, by decide +kernel⟩, List.mem_of_getElem? (i := 888) (by decide +kernel), List.mem_of_getElem? (i := 1237) (by decide +kernel), List.mem_of_getElem? (i := 1238) (by decide +kernel)⟩
theorem lw_p92 : lw_okq (⟨"ThreadChartsModel", "signed", "(III)J"⟩, 59) := ⟨⟨by decide +kernel, by decide +kernel⟩, List.mem_of_getElem? (i := 888) (by decide +kernel), List.mem_of_getElem? (i := 1241) (by decide +kernel), List.mem_of_getElem? (i := 1242) (by decide +kernel)⟩
theorem lw_p93 : lw_okq (⟨"ThreadChartsModel", "widest", "(II)J"⟩, 59) := ⟨⟨by decide +kernel, by decide +kernel⟩, List.mem_of_getElem? (i := 888) (by decide +kernel), List.mem_of_getElem? (i := 1249) (by decide +kernel), List.mem_of_getElem? (i := 1250) (by decide +kernel)⟩
theorem lw_p94 : lw_okq (⟨"ThreadChartsModel", "tall", "(IIJJ)J"⟩, 59) := ⟨⟨by decide +kernel, by decide +kernel⟩, List.mem_of_getElem? (i := 888) (by decide +kernel), List.mem_of_getElem? (i := 1257) (by decide +kernel), List.mem_of_getElem? (i := 1258) (by decide +kernel)⟩
theorem lw_p95 : lw_okq (⟨"ThreadChartsModel", "holds", "(J)V"⟩, 59) := ⟨⟨by decide +kernel, by decide +kernel⟩, List.mem_of_getElem? (i := 888) (by decide +kernel), List.mem_of_getElem? (i := 1263) (by decide +kernel), List.mem_of_getElem? (i := 1264) (by decide +kernel)⟩
def lw_privs_6 : List (MethodName × Nat) := [(⟨"ThreadChartsModel", "valueOf", "(III)I"⟩, 59), (⟨"ThreadChartsModel", "isChart", "(I)Z"⟩, 59), (⟨"ThreadChartsModel", "back", "(IJ)J"⟩, 59), (⟨"ThreadChartsModel", "swells", "(IJ)J"⟩, 59), (⟨"ThreadChartsModel", "takes", "([II)V"⟩, 59), (⟨"ThreadChartsModel", "goes", "(II)J"⟩, 59), (⟨"ThreadChartsModel", "numberOf", "(IIII)I"⟩, 59), (⟨"ThreadChartsModel", "pagesOf", "(I)I"⟩, 59), (⟨"ThreadChartsModel", "mid", "(II)I"⟩, 59), (⟨"ThreadChartsModel", "sumAt", "(IIJ)J"⟩, 59), (⟨"ThreadChartsModel", "tenths", "(IJ)I"⟩, 59), (⟨"ThreadChartsModel", "spans", "(II)V"⟩, 59), (⟨"ThreadChartsModel", "signed", "(III)J"⟩, 59), (⟨"ThreadChartsModel", "widest", "(II)J"⟩, 59), (⟨"ThreadChartsModel", "tall", "(IIJJ)J"⟩, 59), (⟨"ThreadChartsModel", "holds", "(J)V"⟩, 59)]
theorem lw_r6 : ∀ q ∈ lw_privs_6, lw_okq q := List.forall_mem_cons.mpr ⟨lw_p80, List.forall_mem_cons.mpr ⟨lw_p81, List.forall_mem_cons.mpr ⟨lw_p82, List.forall_mem_cons.mpr ⟨lw_p83, List.forall_mem_cons.mpr ⟨lw_p84, List.forall_mem_cons.mpr ⟨lw_p85, List.forall_mem_cons.mpr ⟨lw_p86, List.forall_mem_cons.mpr ⟨lw_p87, List.forall_mem_cons.mpr ⟨lw_p88, List.forall_mem_cons.mpr ⟨lw_p89, List.forall_mem_cons.mpr ⟨lw_p90, List.forall_mem_cons.mpr ⟨lw_p91, List.forall_mem_cons.mpr ⟨lw_p92, List.forall_mem_cons.mpr ⟨lw_p93, List.forall_mem_cons.mpr ⟨lw_p94, List.forall_mem_cons.mpr ⟨lw_p95, fun _ h => absurd h List.not_mem_nil⟩⟩⟩⟩⟩⟩⟩⟩⟩⟩⟩⟩⟩⟩⟩⟩
theorem lw_p96 : lw_okq (⟨"ThreadChartsModel", "habitOf", "(I)I"⟩, 59) := ⟨⟨by decide +kernel, by decide +kernel⟩, List.mem_of_getElem? (i := 888) (by decide +kernel), List.mem_of_getElem? (i := 1300) (by decide +kernel), List.mem_of_getElem? (i := 1301) (by decide +kernel)⟩
theorem lw_p97 : lw_okq (⟨"ThreadChartsModel", "dueOf", "(I)I"⟩, 59) := ⟨⟨by decide +kernel, by decide +kernel⟩, List.mem_of_getElem? (i := 888) (by decide +kernel), List.mem_of_getElem? (i := 1304) (by decide +kernel), List.mem_of_getElem? (i := 1305) (by decide +kernel)⟩
theorem lw_p98 : lw_okq (⟨"ThreadChartsModel", "stands", "(II)I"⟩, 59) := ⟨⟨by decide +kernel, by decide +kernel⟩, List.mem_of_getElem? (i := 888) (by decide +kernel), List.mem_of_getElem? (i := 1313) (by decide +kernel), List.mem_of_getElem? (i := 1314) (by decide +kernel)⟩
theorem lw_p99 : lw_okq (⟨"ThreadChartsModel", "finds", "(II)Z"⟩, 59) := ⟨⟨by decide +kernel, by decide +kernel⟩, List.mem_of_getElem? (i := 888) (by decide +kernel), List.mem_of_getElem? (i := 1321) (by decide +kernel), List.mem_of_getElem? (i := 1322) (by decide +kernel)⟩
theorem lw_p100 : lw_okq (⟨"ThreadChartsModel", "has", "(II)Z"⟩, 59) := ⟨⟨by decide +kernel, by decide +kernel⟩, List.mem_of_getElem? (i := 888) (by decide +kernel), List.mem_of_getElem? (i := 1325) (by decide +kernel), List.mem_of_getElem? (i := 1326) (by decide +kernel)⟩
theorem lw_p101 : lw_okq (⟨"ThreadChartsModel", "explains", "(I)Z"⟩, 59) := ⟨⟨by decide +kernel, by decide +kernel⟩, List.mem_of_getElem? (i := 888) (by decide +kernel), List.mem_of_getElem? (i := 1332) (by decide +kernel), List.mem_of_getElem? (i := 1333) (by decide +kernel)⟩
def lw_privs_7 : List (MethodName × Nat) := [(⟨"ThreadChartsModel", "habitOf", "(I)I"⟩, 59), (⟨"ThreadChartsModel", "dueOf", "(I)I"⟩, 59), (⟨"ThreadChartsModel", "stands", "(II)I"⟩, 59), (⟨"ThreadChartsModel", "finds", "(II)Z"⟩, 59), (⟨"ThreadChartsModel", "has", "(II)Z"⟩, 59), (⟨"ThreadChartsModel", "explains", "(I)Z"⟩, 59)]
theorem lw_r7 : ∀ q ∈ lw_privs_7, lw_okq q := List.forall_mem_cons.mpr ⟨lw_p96, List.forall_mem_cons.mpr ⟨lw_p97, List.forall_mem_cons.mpr ⟨lw_p98, List.forall_mem_cons.mpr ⟨lw_p99, List.forall_mem_cons.mpr ⟨lw_p100, List.forall_mem_cons.mpr ⟨lw_p101, fun _ h => absurd h List.not_mem_nil⟩⟩⟩⟩⟩⟩
def lw_privs : List (MethodName × Nat) := lw_privs_1 ++ (lw_privs_2 ++ (lw_privs_3 ++ (lw_privs_4 ++ (lw_privs_5 ++ (lw_privs_6 ++ (lw_privs_7))))))
def lw_tbl : List Cond := k2_sels lw_privs ++ tables_1
theorem lw_privs_ok : ∀ q ∈ lw_privs, lw_okq q := by
  show ∀ q ∈ lw_privs_1 ++ (lw_privs_2 ++ (lw_privs_3 ++ (lw_privs_4 ++ (lw_privs_5 ++ (lw_privs_6 ++ (lw_privs_7)))))), lw_okq q
  exact List.forall_mem_append.mpr ⟨lw_r1, List.forall_mem_append.mpr ⟨lw_r2, List.forall_mem_append.mpr ⟨lw_r3, List.forall_mem_append.mpr ⟨lw_r4, List.forall_mem_append.mpr ⟨lw_r5, List.forall_mem_append.mpr ⟨lw_r6, lw_r7⟩⟩⟩⟩⟩⟩
def RX0 : String := "ThreadCharts$Chart"
def TX0 : u_T := fun k => match k with
  | 0 => ("ThreadCharts$Chart", "rule", "LThreadCharts$Rule;", true)
  | 1 => ("ThreadCharts$Chart", "number", "I", true)
  | 2 => ("ThreadCharts$Chart", "size", "I", true)
  | 3 => ("ThreadCharts$Chart", "pages", "I", true)
  | 4 => ("ThreadCharts$Chart", "wide", "I", true)
  | 5 => ("ThreadCharts$Chart", "order", "[I", true)
  | 6 => ("ThreadCharts$Chart", "left", "[I", true)
  | 7 => ("ThreadCharts$Chart", "right", "[I", true)
  | 8 => ("ThreadCharts$Chart", "leastAhead", "[J", true)
  | 9 => ("ThreadCharts$Chart", "greatestAhead", "[J", true)
  | _ => ("ThreadCharts$Chart", "paper", "LThreadCharts$Paper;", true)
def tyX0 : Nat → FieldType := fun k => match k with
  | 0 => .object "ThreadCharts$Rule"
  | 1 => .int
  | 2 => .int
  | 3 => .int
  | 4 => .int
  | 5 => .array .int
  | 6 => .array .int
  | 7 => .array .int
  | 8 => .array .long
  | 9 => .array .long
  | _ => .object "ThreadCharts$Paper"
abbrev wsX00 : List Cond := u_ws RX0 TX0 11
theorem nmX0 : ∀ a, a < 11 → ∀ b, b < 11 → a ≠ b → (TX0 a).2.1 ≠ (TX0 b).2.1 := by decide +kernel
theorem tyX0_ok : ∀ k, k < 11 → parseFieldDescriptor (TX0 k).2.2.1 = some (tyX0 k) := by decide +kernel
abbrev cX0_init : ByteArray := prog_2_method_1_code
def yX0_init : MethodName := ⟨RX0, "<init>", "(LThreadCharts$Rule;II)V"⟩
abbrev cX0_putOrder : ByteArray := prog_2_method_2_code
def yX0_putOrder : MethodName := ⟨RX0, "putOrder", "(I)V"⟩
abbrev cX0_putModuli : ByteArray := prog_2_method_3_code
def yX0_putModuli : MethodName := ⟨RX0, "putModuli", "(II)V"⟩
abbrev cX0_hasPage : ByteArray := prog_2_method_4_code
def yX0_hasPage : MethodName := ⟨RX0, "hasPage", "(I)Z"⟩
abbrev cX0_hasMarks : ByteArray := prog_2_method_5_code
def yX0_hasMarks : MethodName := ⟨RX0, "hasMarks", "(I)Z"⟩
abbrev cX0_markAt : ByteArray := prog_2_method_6_code
def yX0_markAt : MethodName := ⟨RX0, "markAt", "(II)I"⟩
abbrev cX0_midOf : ByteArray := prog_2_method_7_code
def yX0_midOf : MethodName := ⟨RX0, "midOf", "(I)J"⟩
abbrev cX0_meets : ByteArray := prog_2_method_8_code
def yX0_meets : MethodName := ⟨RX0, "meets", "(IJJ)J"⟩
abbrev cX0_sumAt : ByteArray := prog_2_method_9_code
def yX0_sumAt : MethodName := ⟨RX0, "sumAt", "(IJ)J"⟩
abbrev cX0_lastSumOnFlat : ByteArray := prog_2_method_10_code
def yX0_lastSumOnFlat : MethodName := ⟨RX0, "lastSumOnFlat", "([JI)J"⟩
abbrev cX0_tallWith : ByteArray := prog_2_method_11_code
def yX0_tallWith : MethodName := ⟨RX0, "tallWith", "(III)J"⟩
abbrev cX0_middleOf : ByteArray := prog_2_method_12_code
def yX0_middleOf : MethodName := ⟨RX0, "middleOf", "(JJJ)J"⟩
abbrev cX0_finestOf : ByteArray := prog_2_method_13_code
def yX0_finestOf : MethodName := ⟨RX0, "finestOf", "(II[II)I"⟩
abbrev cX0_isFiner : ByteArray := prog_2_method_14_code
def yX0_isFiner : MethodName := ⟨RX0, "isFiner", "(IIII)Z"⟩
def RX1 : String := "ThreadCharts$Errata"
def TX1 : u_T := fun k => match k with
  | 0 => ("ThreadCharts$Errata", "charts", "[I", true)
  | 1 => ("ThreadCharts$Errata", "terms", "[I", true)
  | 2 => ("ThreadCharts$Errata", "marks", "[I", true)
  | 3 => ("ThreadCharts$Errata", "numbers", "[I", true)
  | 4 => ("ThreadCharts$Errata", "days", "[I", true)
  | _ => ("ThreadCharts$Errata", "count", "I", false)
def tyX1 : Nat → FieldType := fun k => match k with
  | 0 => .array .int
  | 1 => .array .int
  | 2 => .array .int
  | 3 => .array .int
  | 4 => .array .int
  | _ => .int
abbrev wsX10 : List Cond := u_ws RX1 TX1 6
theorem nmX1 : ∀ a, a < 6 → ∀ b, b < 6 → a ≠ b → (TX1 a).2.1 ≠ (TX1 b).2.1 := by decide +kernel
theorem tyX1_ok : ∀ k, k < 6 → parseFieldDescriptor (TX1 k).2.2.1 = some (tyX1 k) := by decide +kernel
abbrev cX1_init : ByteArray := prog_3_method_1_code
def yX1_init : MethodName := ⟨RX1, "<init>", "()V"⟩
abbrev cX1_isFull : ByteArray := prog_3_method_2_code
def yX1_isFull : MethodName := ⟨RX1, "isFull", "()Z"⟩
abbrev cX1_add : ByteArray := prog_3_method_3_code
def yX1_add : MethodName := ⟨RX1, "add", "(IIIII)V"⟩
abbrev cX1_numberOn : ByteArray := prog_3_method_4_code
def yX1_numberOn : MethodName := ⟨RX1, "numberOn", "(IIII)I"⟩
def RX2 : String := "ThreadCharts$HeapSearch"
def TX2 : u_T := fun k => match k with
  | 0 => ("ThreadCharts$HeapSearch", "seen", "[I", true)
  | 1 => ("ThreadCharts$HeapSearch", "badMarks", "[I", true)
  | 2 => ("ThreadCharts$HeapSearch", "badHeaps", "[I", true)
  | 3 => ("ThreadCharts$HeapSearch", "candidates", "[I", true)
  | 4 => ("ThreadCharts$HeapSearch", "badCount", "I", false)
  | 5 => ("ThreadCharts$HeapSearch", "candidateCount", "I", false)
  | 6 => ("ThreadCharts$HeapSearch", "fewest", "I", false)
  | 7 => ("ThreadCharts$HeapSearch", "ways", "I", false)
  | _ => ("ThreadCharts$HeapSearch", "firstHeap", "I", false)
def tyX2 : Nat → FieldType := fun k => match k with
  | 0 => .array .int
  | 1 => .array .int
  | 2 => .array .int
  | 3 => .array .int
  | 4 => .int
  | 5 => .int
  | 6 => .int
  | 7 => .int
  | _ => .int
abbrev wsX20 : List Cond := u_ws RX2 TX2 9
theorem nmX2 : ∀ a, a < 9 → ∀ b, b < 9 → a ≠ b → (TX2 a).2.1 ≠ (TX2 b).2.1 := by decide +kernel
theorem tyX2_ok : ∀ k, k < 9 → parseFieldDescriptor (TX2 k).2.2.1 = some (tyX2 k) := by decide +kernel
abbrev cX2_init : ByteArray := prog_4_method_1_code
def yX2_init : MethodName := ⟨RX2, "<init>", "()V"⟩
abbrev cX2_startOver : ByteArray := prog_4_method_2_code
def yX2_startOver : MethodName := ⟨RX2, "startOver", "()V"⟩
abbrev cX2_add : ByteArray := prog_4_method_3_code
def yX2_add : MethodName := ⟨RX2, "add", "(LThreadCharts$Chart;IZ)V"⟩
abbrev cX2_look : ByteArray := prog_4_method_4_code
def yX2_look : MethodName := ⟨RX2, "look", "(I)Z"⟩
abbrev cX2_findCandidates : ByteArray := prog_4_method_5_code
def yX2_findCandidates : MethodName := ⟨RX2, "findCandidates", "()Z"⟩
abbrev cX2_weighBadOnes : ByteArray := prog_4_method_6_code
def yX2_weighBadOnes : MethodName := ⟨RX2, "weighBadOnes", "(I)Z"⟩
abbrev cX2_bitOf : ByteArray := prog_4_method_7_code
def yX2_bitOf : MethodName := ⟨RX2, "bitOf", "(I)I"⟩
abbrev cX2_hitsAllBadOnes : ByteArray := prog_4_method_8_code
def yX2_hitsAllBadOnes : MethodName := ⟨RX2, "hitsAllBadOnes", "(I)Z"⟩
abbrev cX2_suspectOfFirst : ByteArray := prog_4_method_9_code
def yX2_suspectOfFirst : MethodName := ⟨RX2, "suspectOfFirst", "(I)I"⟩
def RX3 : String := "ThreadCharts$OrderSearch"
def TX3 : u_T := fun k => match k with
  | 0 => ("ThreadCharts$OrderSearch", "tried", "[I", true)
  | 1 => ("ThreadCharts$OrderSearch", "numbers", "[J", true)
  | 2 => ("ThreadCharts$OrderSearch", "bestOrder", "I", false)
  | _ => ("ThreadCharts$OrderSearch", "bestWidth", "J", false)
def tyX3 : Nat → FieldType := fun k => match k with
  | 0 => .array .int
  | 1 => .array .long
  | 2 => .int
  | _ => .long
abbrev wsX30 : List Cond := u_ws RX3 TX3 4
theorem nmX3 : ∀ a, a < 4 → ∀ b, b < 4 → a ≠ b → (TX3 a).2.1 ≠ (TX3 b).2.1 := by decide +kernel
theorem tyX3_ok : ∀ k, k < 4 → parseFieldDescriptor (TX3 k).2.2.1 = some (tyX3 k) := by decide +kernel
abbrev cX3_init : ByteArray := prog_5_method_1_code
def yX3_init : MethodName := ⟨RX3, "<init>", "()V"⟩
abbrev cX3_look : ByteArray := prog_5_method_2_code
def yX3_look : MethodName := ⟨RX3, "look", "(LThreadCharts$Chart;I)V"⟩
abbrev cX3_greatestWidth : ByteArray := prog_5_method_3_code
def yX3_greatestWidth : MethodName := ⟨RX3, "greatestWidth", "(LThreadCharts$Chart;I)J"⟩
abbrev cX3_digitsOfTried : ByteArray := prog_5_method_4_code
def yX3_digitsOfTried : MethodName := ⟨RX3, "digitsOfTried", "(I)I"⟩
abbrev cX3_goToNext : ByteArray := prog_5_method_5_code
def yX3_goToNext : MethodName := ⟨RX3, "goToNext", "(I)Z"⟩
abbrev cX3_swap : ByteArray := prog_5_method_6_code
def yX3_swap : MethodName := ⟨RX3, "swap", "(II)V"⟩
def RX4 : String := "ThreadCharts$Paper"
def TX4 : u_T := fun k => match k with
  | 0 => ("ThreadCharts$Paper", "seam", "I", false)
  | 1 => ("ThreadCharts$Paper", "low", "I", false)
  | _ => ("ThreadCharts$Paper", "up", "I", false)
def tyX4 : Nat → FieldType := fun k => match k with
  | 0 => .int
  | 1 => .int
  | _ => .int
abbrev wsX40 : List Cond := u_ws RX4 TX4 3
theorem nmX4 : ∀ a, a < 3 → ∀ b, b < 3 → a ≠ b → (TX4 a).2.1 ≠ (TX4 b).2.1 := by decide +kernel
theorem tyX4_ok : ∀ k, k < 3 → parseFieldDescriptor (TX4 k).2.2.1 = some (tyX4 k) := by decide +kernel
abbrev cX4_init : ByteArray := prog_6_method_1_code
def yX4_init : MethodName := ⟨RX4, "<init>", "()V"⟩
abbrev cX4_put : ByteArray := prog_6_method_2_code
def yX4_put : MethodName := ⟨RX4, "put", "(III)V"⟩
abbrev cX4_lies : ByteArray := prog_6_method_3_code
def yX4_lies : MethodName := ⟨RX4, "lies", "(J)J"⟩
abbrev cX4_placeReadAt : ByteArray := prog_6_method_4_code
def yX4_placeReadAt : MethodName := ⟨RX4, "placeReadAt", "(J)J"⟩
def RX5 : String := "ThreadCharts$Parser"
def TX5 : u_T := fun k => match k with
  | 0 => ("ThreadCharts$Parser", "kinds", "[I", true)
  | 1 => ("ThreadCharts$Parser", "signs", "[I", true)
  | 2 => ("ThreadCharts$Parser", "terms", "I", false)
  | 3 => ("ThreadCharts$Parser", "constant", "I", false)
  | 4 => ("ThreadCharts$Parser", "state", "I", false)
  | 5 => ("ThreadCharts$Parser", "sign", "I", false)
  | 6 => ("ThreadCharts$Parser", "letter", "I", false)
  | _ => ("ThreadCharts$Parser", "lettersSeen", "I", false)
def tyX5 : Nat → FieldType := fun k => match k with
  | 0 => .array .int
  | 1 => .array .int
  | 2 => .int
  | 3 => .int
  | 4 => .int
  | 5 => .int
  | 6 => .int
  | _ => .int
abbrev wsX50 : List Cond := u_ws RX5 TX5 8
theorem nmX5 : ∀ a, a < 8 → ∀ b, b < 8 → a ≠ b → (TX5 a).2.1 ≠ (TX5 b).2.1 := by decide +kernel
theorem tyX5_ok : ∀ k, k < 8 → parseFieldDescriptor (TX5 k).2.2.1 = some (tyX5 k) := by decide +kernel
abbrev cX5_init : ByteArray := prog_7_method_1_code
def yX5_init : MethodName := ⟨RX5, "<init>", "()V"⟩
abbrev cX5_faultOf : ByteArray := prog_7_method_2_code
def yX5_faultOf : MethodName := ⟨RX5, "faultOf", "(LThreadCharts$Text;)I"⟩
abbrev cX5_startOver : ByteArray := prog_7_method_3_code
def yX5_startOver : MethodName := ⟨RX5, "startOver", "()V"⟩
abbrev cX5_takeNumber : ByteArray := prog_7_method_4_code
def yX5_takeNumber : MethodName := ⟨RX5, "takeNumber", "(I)V"⟩
abbrev cX5_takes : ByteArray := prog_7_method_5_code
def yX5_takes : MethodName := ⟨RX5, "takes", "(I)Z"⟩
abbrev cX5_goesOn : ByteArray := prog_7_method_6_code
def yX5_goesOn : MethodName := ⟨RX5, "goesOn", "(II)Z"⟩
abbrev cX5_beginsForm : ByteArray := prog_7_method_7_code
def yX5_beginsForm : MethodName := ⟨RX5, "beginsForm", "(I)Z"⟩
abbrev cX5_takesLetter : ByteArray := prog_7_method_8_code
def yX5_takesLetter : MethodName := ⟨RX5, "takesLetter", "(III)Z"⟩
abbrev cX5_squares : ByteArray := prog_7_method_9_code
def yX5_squares : MethodName := ⟨RX5, "squares", "(I)Z"⟩
abbrev cX5_followsPart : ByteArray := prog_7_method_10_code
def yX5_followsPart : MethodName := ⟨RX5, "followsPart", "(I)Z"⟩
def RX6 : String := "ThreadCharts$Reports"
def TX6 : u_T := fun k => match k with
  | 0 => ("ThreadCharts$Reports", "readers", "[I", true)
  | 1 => ("ThreadCharts$Reports", "charts", "[I", true)
  | 2 => ("ThreadCharts$Reports", "marks", "[I", true)
  | 3 => ("ThreadCharts$Reports", "tenths", "[I", true)
  | 4 => ("ThreadCharts$Reports", "days", "[I", true)
  | 5 => ("ThreadCharts$Reports", "dues", "[I", true)
  | 6 => ("ThreadCharts$Reports", "tally", "[I", true)
  | 7 => ("ThreadCharts$Reports", "count", "I", false)
  | _ => ("ThreadCharts$Reports", "duesKnown", "I", false)
def tyX6 : Nat → FieldType := fun k => match k with
  | 0 => .array .int
  | 1 => .array .int
  | 2 => .array .int
  | 3 => .array .int
  | 4 => .array .int
  | 5 => .array .int
  | 6 => .array .int
  | 7 => .int
  | _ => .int
abbrev wsX60 : List Cond := u_ws RX6 TX6 9
theorem nmX6 : ∀ a, a < 9 → ∀ b, b < 9 → a ≠ b → (TX6 a).2.1 ≠ (TX6 b).2.1 := by decide +kernel
theorem tyX6_ok : ∀ k, k < 9 → parseFieldDescriptor (TX6 k).2.2.1 = some (tyX6 k) := by decide +kernel
abbrev cX6_init : ByteArray := prog_8_method_1_code
def yX6_init : MethodName := ⟨RX6, "<init>", "()V"⟩
abbrev cX6_isFull : ByteArray := prog_8_method_2_code
def yX6_isFull : MethodName := ⟨RX6, "isFull", "()Z"⟩
abbrev cX6_has : ByteArray := prog_8_method_3_code
def yX6_has : MethodName := ⟨RX6, "has", "(I)Z"⟩
abbrev cX6_forgetDues : ByteArray := prog_8_method_4_code
def yX6_forgetDues : MethodName := ⟨RX6, "forgetDues", "()V"⟩
abbrev cX6_add : ByteArray := prog_8_method_5_code
def yX6_add : MethodName := ⟨RX6, "add", "(IIIII)V"⟩
abbrev cX6_habitOf : ByteArray := prog_8_method_6_code
def yX6_habitOf : MethodName := ⟨RX6, "habitOf", "(I)I"⟩
abbrev cX6_isBad : ByteArray := prog_8_method_7_code
def yX6_isBad : MethodName := ⟨RX6, "isBad", "(II)Z"⟩
def RX7 : String := "ThreadCharts$Rule"
def TX7 : u_T := fun k => match k with
  | 0 => ("ThreadCharts$Rule", "terms", "I", true)
  | 1 => ("ThreadCharts$Rule", "constant", "I", true)
  | 2 => ("ThreadCharts$Rule", "kinds", "[I", true)
  | 3 => ("ThreadCharts$Rule", "signs", "[I", true)
  | 4 => ("ThreadCharts$Rule", "markCounts", "[I", true)
  | 5 => ("ThreadCharts$Rule", "marks", "[[I", true)
  | 6 => ("ThreadCharts$Rule", "scale", "[I", true)
  | _ => ("ThreadCharts$Rule", "scaleCount", "I", false)
def tyX7 : Nat → FieldType := fun k => match k with
  | 0 => .int
  | 1 => .int
  | 2 => .array .int
  | 3 => .array .int
  | 4 => .array .int
  | 5 => .array (.array .int)
  | 6 => .array .int
  | _ => .int
abbrev wsX70 : List Cond := u_ws RX7 TX7 8
theorem nmX7 : ∀ a, a < 8 → ∀ b, b < 8 → a ≠ b → (TX7 a).2.1 ≠ (TX7 b).2.1 := by decide +kernel
theorem tyX7_ok : ∀ k, k < 8 → parseFieldDescriptor (TX7 k).2.2.1 = some (tyX7 k) := by decide +kernel
abbrev cX7_init : ByteArray := prog_9_method_1_code
def yX7_init : MethodName := ⟨RX7, "<init>", "(LThreadCharts$Parser;)V"⟩
abbrev cX7_hasTerm : ByteArray := prog_9_method_2_code
def yX7_hasTerm : MethodName := ⟨RX7, "hasTerm", "(I)Z"⟩
abbrev cX7_kindOf : ByteArray := prog_9_method_3_code
def yX7_kindOf : MethodName := ⟨RX7, "kindOf", "(I)I"⟩
abbrev cX7_signOf : ByteArray := prog_9_method_4_code
def yX7_signOf : MethodName := ⟨RX7, "signOf", "(I)I"⟩
abbrev cX7_canRange : ByteArray := prog_9_method_5_code
def yX7_canRange : MethodName := ⟨RX7, "canRange", "(IIII)Z"⟩
abbrev cX7_putRange : ByteArray := prog_9_method_6_code
def yX7_putRange : MethodName := ⟨RX7, "putRange", "(IIII)V"⟩
abbrev cX7_putOnScale : ByteArray := prog_9_method_7_code
def yX7_putOnScale : MethodName := ⟨RX7, "putOnScale", "(I)V"⟩
abbrev cX7_hasAllRanges : ByteArray := prog_9_method_8_code
def yX7_hasAllRanges : MethodName := ⟨RX7, "hasAllRanges", "()Z"⟩
abbrev cX7_hasMark : ByteArray := prog_9_method_9_code
def yX7_hasMark : MethodName := ⟨RX7, "hasMark", "(II)Z"⟩
abbrev cX7_numberOf : ByteArray := prog_9_method_10_code
def yX7_numberOf : MethodName := ⟨RX7, "numberOf", "(II)I"⟩
abbrev cX7_signedOf : ByteArray := prog_9_method_11_code
def yX7_signedOf : MethodName := ⟨RX7, "signedOf", "(II)I"⟩
abbrev cX7_lastMarkOf : ByteArray := prog_9_method_12_code
def yX7_lastMarkOf : MethodName := ⟨RX7, "lastMarkOf", "(I)I"⟩
abbrev cX7_leastOf : ByteArray := prog_9_method_13_code
def yX7_leastOf : MethodName := ⟨RX7, "leastOf", "(I)I"⟩
abbrev cX7_greatestOf : ByteArray := prog_9_method_14_code
def yX7_greatestOf : MethodName := ⟨RX7, "greatestOf", "(I)I"⟩
abbrev cX7_isOrder : ByteArray := prog_9_method_15_code
def yX7_isOrder : MethodName := ⟨RX7, "isOrder", "(I)Z"⟩
abbrev cX7_tenthsOf : ByteArray := prog_9_method_16_code
def yX7_tenthsOf : MethodName := ⟨RX7, "tenthsOf", "(J)I"⟩
abbrev cX7_numberOfValue : ByteArray := prog_9_method_17_code
def yX7_numberOfValue : MethodName := ⟨RX7, "numberOfValue", "(II)I"⟩
abbrev cX7_leastValue : ByteArray := prog_9_method_18_code
def yX7_leastValue : MethodName := ⟨RX7, "leastValue", "(I)I"⟩
abbrev cX7_greatestValue : ByteArray := prog_9_method_19_code
def yX7_greatestValue : MethodName := ⟨RX7, "greatestValue", "(I)I"⟩
def RX8 : String := "ThreadCharts$Text"
def TX8 : u_T := fun k => match k with
  | 0 => ("ThreadCharts$Text", "bytes", "[B", true)
  | _ => ("ThreadCharts$Text", "length", "I", false)
def tyX8 : Nat → FieldType := fun k => match k with
  | 0 => .array .byte
  | _ => .int
abbrev wsX80 : List Cond := u_ws RX8 TX8 2
theorem nmX8 : ∀ a, a < 2 → ∀ b, b < 2 → a ≠ b → (TX8 a).2.1 ≠ (TX8 b).2.1 := by decide +kernel
theorem tyX8_ok : ∀ k, k < 2 → parseFieldDescriptor (TX8 k).2.2.1 = some (tyX8 k) := by decide +kernel
abbrev cX8_init : ByteArray := prog_10_method_1_code
def yX8_init : MethodName := ⟨RX8, "<init>", "()V"⟩
abbrev cX8_add : ByteArray := prog_10_method_2_code
def yX8_add : MethodName := ⟨RX8, "add", "(I)V"⟩
abbrev cX8_byteAt : ByteArray := prog_10_method_3_code
def yX8_byteAt : MethodName := ⟨RX8, "byteAt", "(I)I"⟩
def RX9 : String := "ThreadCharts$Walk"
def TX9 : u_T := fun k => match k with
  | 0 => ("ThreadCharts$Walk", "left", "J", false)
  | 1 => ("ThreadCharts$Walk", "right", "J", false)
  | 2 => ("ThreadCharts$Walk", "meets", "J", false)
  | _ => ("ThreadCharts$Walk", "sum", "J", false)
def tyX9 : Nat → FieldType := fun k => match k with
  | 0 => .long
  | 1 => .long
  | 2 => .long
  | _ => .long
abbrev wsX90 : List Cond := u_ws RX9 TX9 4
theorem nmX9 : ∀ a, a < 4 → ∀ b, b < 4 → a ≠ b → (TX9 a).2.1 ≠ (TX9 b).2.1 := by decide +kernel
theorem tyX9_ok : ∀ k, k < 4 → parseFieldDescriptor (TX9 k).2.2.1 = some (tyX9 k) := by decide +kernel
abbrev cX9_init : ByteArray := prog_11_method_1_code
def yX9_init : MethodName := ⟨RX9, "<init>", "()V"⟩
abbrev cX9_along : ByteArray := prog_11_method_2_code
def yX9_along : MethodName := ⟨RX9, "along", "(LThreadCharts$Chart;[JI)V"⟩
def RX10 : String := "ThreadCharts"
def TX10 : u_T := fun k => match k with
  | 0 => ("ThreadCharts", "text", "LThreadCharts$Text;", true)
  | 1 => ("ThreadCharts", "parser", "LThreadCharts$Parser;", true)
  | 2 => ("ThreadCharts", "rules", "[LThreadCharts$Rule;", true)
  | 3 => ("ThreadCharts", "ruleCount", "I", false)
  | 4 => ("ThreadCharts", "charts", "[LThreadCharts$Chart;", true)
  | 5 => ("ThreadCharts", "chartCount", "I", false)
  | 6 => ("ThreadCharts", "listed", "[I", true)
  | 7 => ("ThreadCharts", "listedCount", "I", false)
  | 8 => ("ThreadCharts", "now", "I", false)
  | 9 => ("ThreadCharts", "readingChart", "LThreadCharts$Chart;", false)
  | 10 => ("ThreadCharts", "readingMarks", "I", false)
  | 11 => ("ThreadCharts", "errata", "LThreadCharts$Errata;", true)
  | 12 => ("ThreadCharts", "reports", "LThreadCharts$Reports;", true)
  | 13 => ("ThreadCharts", "numbers", "[J", true)
  | 14 => ("ThreadCharts", "walk", "LThreadCharts$Walk;", true)
  | 15 => ("ThreadCharts", "orders", "LThreadCharts$OrderSearch;", true)
  | _ => ("ThreadCharts", "heaps", "LThreadCharts$HeapSearch;", true)
def tyX10 : Nat → FieldType := fun k => match k with
  | 0 => .object "ThreadCharts$Text"
  | 1 => .object "ThreadCharts$Parser"
  | 2 => .array (.object "ThreadCharts$Rule")
  | 3 => .int
  | 4 => .array (.object "ThreadCharts$Chart")
  | 5 => .int
  | 6 => .array .int
  | 7 => .int
  | 8 => .int
  | 9 => .object "ThreadCharts$Chart"
  | 10 => .int
  | 11 => .object "ThreadCharts$Errata"
  | 12 => .object "ThreadCharts$Reports"
  | 13 => .array .long
  | 14 => .object "ThreadCharts$Walk"
  | 15 => .object "ThreadCharts$OrderSearch"
  | _ => .object "ThreadCharts$HeapSearch"
abbrev wsX100 : List Cond := u_ws RX10 TX10 17
theorem nmX10 : ∀ a, a < 17 → ∀ b, b < 17 → a ≠ b → (TX10 a).2.1 ≠ (TX10 b).2.1 := by decide +kernel
theorem tyX10_ok : ∀ k, k < 17 → parseFieldDescriptor (TX10 k).2.2.1 = some (tyX10 k) := by decide +kernel
abbrev cX10_init : ByteArray := prog_1_method_1_code
def yX10_init : MethodName := ⟨RX10, "<init>", "()V"⟩
abbrev cX10_feed : ByteArray := prog_1_method_2_code
def yX10_feed : MethodName := ⟨RX10, "feed", "(IIIII)I"⟩
abbrev cX10_end : ByteArray := prog_1_method_3_code
def yX10_end : MethodName := ⟨RX10, "end", "(I)Z"⟩
abbrev cX10_fault : ByteArray := prog_1_method_4_code
def yX10_fault : MethodName := ⟨RX10, "fault", "()I"⟩
abbrev cX10_rule : ByteArray := prog_1_method_5_code
def yX10_rule : MethodName := ⟨RX10, "rule", "()I"⟩
abbrev cX10_told : ByteArray := prog_1_method_6_code
def yX10_told : MethodName := ⟨RX10, "told", "(II)I"⟩
abbrev cX10_range : ByteArray := prog_1_method_7_code
def yX10_range : MethodName := ⟨RX10, "range", "(IIIII)I"⟩
abbrev cX10_mark : ByteArray := prog_1_method_8_code
def yX10_mark : MethodName := ⟨RX10, "mark", "(III)I"⟩
abbrev cX10_chart : ByteArray := prog_1_method_9_code
def yX10_chart : MethodName := ⟨RX10, "chart", "(IIIIII)I"⟩
abbrev cX10_reading : ByteArray := prog_1_method_10_code
def yX10_reading : MethodName := ⟨RX10, "reading", "(II)Z"⟩
abbrev cX10_read : ByteArray := prog_1_method_11_code
def yX10_read : MethodName := ⟨RX10, "read", "(II)I"⟩
abbrev cX10_lead : ByteArray := prog_1_method_12_code
def yX10_lead : MethodName := ⟨RX10, "lead", "(II)I"⟩
abbrev cX10_span : ByteArray := prog_1_method_13_code
def yX10_span : MethodName := ⟨RX10, "span", "(IZ)I"⟩
abbrev cX10_page : ByteArray := prog_1_method_14_code
def yX10_page : MethodName := ⟨RX10, "page", "(III)I"⟩
abbrev cX10_sharpest : ByteArray := prog_1_method_15_code
def yX10_sharpest : MethodName := ⟨RX10, "sharpest", "(III)I"⟩
abbrev cX10_list : ByteArray := prog_1_method_16_code
def yX10_list : MethodName := ⟨RX10, "list", "(I)I"⟩
abbrev cX10_clear : ByteArray := prog_1_method_17_code
def yX10_clear : MethodName := ⟨RX10, "clear", "()I"⟩
abbrev cX10_finest : ByteArray := prog_1_method_18_code
def yX10_finest : MethodName := ⟨RX10, "finest", "(III)I"⟩
abbrev cX10_paper : ByteArray := prog_1_method_19_code
def yX10_paper : MethodName := ⟨RX10, "paper", "(IIII)Z"⟩
abbrev cX10_swelled : ByteArray := prog_1_method_20_code
def yX10_swelled : MethodName := ⟨RX10, "swelled", "(IIZ)I"⟩
abbrev cX10_go : ByteArray := prog_1_method_21_code
def yX10_go : MethodName := ⟨RX10, "go", "(I)I"⟩
abbrev cX10_move : ByteArray := prog_1_method_22_code
def yX10_move : MethodName := ⟨RX10, "move", "(IIII)I"⟩
abbrev cX10_report : ByteArray := prog_1_method_23_code
def yX10_report : MethodName := ⟨RX10, "report", "(II)I"⟩
abbrev cX10_due : ByteArray := prog_1_method_24_code
def yX10_due : MethodName := ⟨RX10, "due", "(III)I"⟩
abbrev cX10_habit : ByteArray := prog_1_method_25_code
def yX10_habit : MethodName := ⟨RX10, "habit", "(I)I"⟩
abbrev cX10_suspects : ByteArray := prog_1_method_26_code
def yX10_suspects : MethodName := ⟨RX10, "suspects", "(III)I"⟩
abbrev cX10_count : ByteArray := prog_1_method_27_code
def yX10_count : MethodName := ⟨RX10, "count", "(I)I"⟩
abbrev cX10_ruleAt : ByteArray := prog_1_method_28_code
def yX10_ruleAt : MethodName := ⟨RX10, "ruleAt", "(I)LThreadCharts$Rule;"⟩
abbrev cX10_chartAt : ByteArray := prog_1_method_29_code
def yX10_chartAt : MethodName := ⟨RX10, "chartAt", "(I)LThreadCharts$Chart;"⟩
abbrev cX10_isListed : ByteArray := prog_1_method_30_code
def yX10_isListed : MethodName := ⟨RX10, "isListed", "(I)Z"⟩
abbrev cX10_layAsKnown : ByteArray := prog_1_method_31_code
def yX10_layAsKnown : MethodName := ⟨RX10, "layAsKnown", "(LThreadCharts$Chart;II)V"⟩
abbrev cX10_layAsCut : ByteArray := prog_1_method_32_code
def yX10_layAsCut : MethodName := ⟨RX10, "layAsCut", "(LThreadCharts$Chart;I)V"⟩
abbrev cX10_readAsKnown : ByteArray := prog_1_method_33_code
def yX10_readAsKnown : MethodName := ⟨RX10, "readAsKnown", "(LThreadCharts$Chart;II)J"⟩
abbrev cX10_exactSum : ByteArray := prog_1_method_34_code
def yX10_exactSum : MethodName := ⟨RX10, "exactSum", "(LThreadCharts$Chart;)I"⟩
abbrev cX10_refreshDues : ByteArray := prog_1_method_35_code
def yX10_refreshDues : MethodName := ⟨RX10, "refreshDues", "()V"⟩
abbrev cX10_sortReports : ByteArray := prog_1_method_36_code
def yX10_sortReports : MethodName := ⟨RX10, "sortReports", "(LThreadCharts$Chart;I)V"⟩
abbrev cX10_areModuli : ByteArray := prog_1_method_37_code
def yX10_areModuli : MethodName := ⟨RX10, "areModuli", "(IZ)Z"⟩
abbrev cX10_isEye : ByteArray := prog_1_method_38_code
def yX10_isEye : MethodName := ⟨RX10, "isEye", "(I)Z"⟩
abbrev cX10_isSwelling : ByteArray := prog_1_method_39_code
def yX10_isSwelling : MethodName := ⟨RX10, "isSwelling", "(I)Z"⟩
abbrev cX10_isReader : ByteArray := prog_1_method_40_code
def yX10_isReader : MethodName := ⟨RX10, "isReader", "(I)Z"⟩
abbrev cX10_isBound : ByteArray := prog_1_method_41_code
def yX10_isBound : MethodName := ⟨RX10, "isBound", "(I)Z"⟩
abbrev cX10_nearest : ByteArray := prog_1_method_42_code
def yX10_nearest : MethodName := ⟨RX10, "nearest", "(JJ)J"⟩
def RX11 : String := "ThreadChartsModel"
def TX11 : u_T := fun k => match k with
  | 0 => ("ThreadChartsModel", "text", "[B", true)
  | 1 => ("ThreadChartsModel", "size", "I", false)
  | 2 => ("ThreadChartsModel", "at", "I", false)
  | 3 => ("ThreadChartsModel", "token", "I", false)
  | 4 => ("ThreadChartsModel", "tokenAt", "I", false)
  | 5 => ("ThreadChartsModel", "tokenValue", "I", false)
  | 6 => ("ThreadChartsModel", "forms", "I", false)
  | 7 => ("ThreadChartsModel", "letters", "[I", true)
  | 8 => ("ThreadChartsModel", "kinds", "[I", true)
  | 9 => ("ThreadChartsModel", "signs", "[I", true)
  | 10 => ("ThreadChartsModel", "constant", "I", false)
  | 11 => ("ThreadChartsModel", "rules", "I", false)
  | 12 => ("ThreadChartsModel", "ruleTerms", "[I", true)
  | 13 => ("ThreadChartsModel", "ruleConstant", "[I", true)
  | 14 => ("ThreadChartsModel", "ruleKind", "[I", true)
  | 15 => ("ThreadChartsModel", "ruleSign", "[I", true)
  | 16 => ("ThreadChartsModel", "many", "[I", true)
  | 17 => ("ThreadChartsModel", "values", "[I", true)
  | 18 => ("ThreadChartsModel", "charts", "I", false)
  | 19 => ("ThreadChartsModel", "chartRule", "[I", true)
  | 20 => ("ThreadChartsModel", "chartOrder", "[I", true)
  | 21 => ("ThreadChartsModel", "wide", "[I", true)
  | 22 => ("ThreadChartsModel", "left", "[I", true)
  | 23 => ("ThreadChartsModel", "right", "[I", true)
  | 24 => ("ThreadChartsModel", "seam", "[I", true)
  | 25 => ("ThreadChartsModel", "low", "[I", true)
  | 26 => ("ThreadChartsModel", "up", "[I", true)
  | 27 => ("ThreadChartsModel", "readChart", "I", false)
  | 28 => ("ThreadChartsModel", "reading", "[I", true)
  | 29 => ("ThreadChartsModel", "now", "I", false)
  | 30 => ("ThreadChartsModel", "moves", "I", false)
  | 31 => ("ThreadChartsModel", "moveChart", "[I", true)
  | 32 => ("ThreadChartsModel", "moveTerm", "[I", true)
  | 33 => ("ThreadChartsModel", "moveMark", "[I", true)
  | 34 => ("ThreadChartsModel", "moveTo", "[I", true)
  | 35 => ("ThreadChartsModel", "moveIn", "[I", true)
  | 36 => ("ThreadChartsModel", "reports", "I", false)
  | 37 => ("ThreadChartsModel", "reportBy", "[I", true)
  | 38 => ("ThreadChartsModel", "reportChart", "[I", true)
  | 39 => ("ThreadChartsModel", "reportMarks", "[I", true)
  | 40 => ("ThreadChartsModel", "reportSays", "[I", true)
  | 41 => ("ThreadChartsModel", "reportIn", "[I", true)
  | 42 => ("ThreadChartsModel", "listed", "I", false)
  | 43 => ("ThreadChartsModel", "list", "[I", true)
  | 44 => ("ThreadChartsModel", "marks", "[I", true)
  | 45 => ("ThreadChartsModel", "pointLeft", "[J", true)
  | 46 => ("ThreadChartsModel", "pointRight", "[J", true)
  | 47 => ("ThreadChartsModel", "meets", "[J", true)
  | 48 => ("ThreadChartsModel", "sums", "[J", true)
  | 49 => ("ThreadChartsModel", "order", "[I", true)
  | 50 => ("ThreadChartsModel", "leastSum", "J", false)
  | 51 => ("ThreadChartsModel", "mostSum", "J", false)
  | 52 => ("ThreadChartsModel", "lowest", "J", false)
  | 53 => ("ThreadChartsModel", "highest", "J", false)
  | 54 => ("ThreadChartsModel", "how", "[I", true)
  | 55 => ("ThreadChartsModel", "doubt", "[I", true)
  | 56 => ("ThreadChartsModel", "doubts", "I", false)
  | 57 => ("ThreadChartsModel", "heap", "I", false)
  | _ => ("ThreadChartsModel", "heapRivals", "I", false)
def tyX11 : Nat → FieldType := fun k => match k with
  | 0 => .array .byte
  | 1 => .int
  | 2 => .int
  | 3 => .int
  | 4 => .int
  | 5 => .int
  | 6 => .int
  | 7 => .array .int
  | 8 => .array .int
  | 9 => .array .int
  | 10 => .int
  | 11 => .int
  | 12 => .array .int
  | 13 => .array .int
  | 14 => .array .int
  | 15 => .array .int
  | 16 => .array .int
  | 17 => .array .int
  | 18 => .int
  | 19 => .array .int
  | 20 => .array .int
  | 21 => .array .int
  | 22 => .array .int
  | 23 => .array .int
  | 24 => .array .int
  | 25 => .array .int
  | 26 => .array .int
  | 27 => .int
  | 28 => .array .int
  | 29 => .int
  | 30 => .int
  | 31 => .array .int
  | 32 => .array .int
  | 33 => .array .int
  | 34 => .array .int
  | 35 => .array .int
  | 36 => .int
  | 37 => .array .int
  | 38 => .array .int
  | 39 => .array .int
  | 40 => .array .int
  | 41 => .array .int
  | 42 => .int
  | 43 => .array .int
  | 44 => .array .int
  | 45 => .array .long
  | 46 => .array .long
  | 47 => .array .long
  | 48 => .array .long
  | 49 => .array .int
  | 50 => .long
  | 51 => .long
  | 52 => .long
  | 53 => .long
  | 54 => .array .int
  | 55 => .array .int
  | 56 => .int
  | 57 => .int
  | _ => .int
abbrev wsX110 : List Cond := u_ws RX11 TX11 59
theorem nmX11 : ∀ a, a < 59 → ∀ b, b < 59 → a ≠ b → (TX11 a).2.1 ≠ (TX11 b).2.1 := by decide +kernel
theorem tyX11_ok : ∀ k, k < 59 → parseFieldDescriptor (TX11 k).2.2.1 = some (tyX11 k) := by decide +kernel
abbrev cX11_init : ByteArray := prog_13_method_1_code
def yX11_init : MethodName := ⟨RX11, "<init>", "()V"⟩
abbrev cX11_in : ByteArray := prog_13_method_2_code
def yX11_in : MethodName := ⟨RX11, "in", "(JJJ)Z"⟩
abbrev cX11_floor : ByteArray := prog_13_method_3_code
def yX11_floor : MethodName := ⟨RX11, "floor", "(JJ)J"⟩
abbrev cX11_nearest : ByteArray := prog_13_method_4_code
def yX11_nearest : MethodName := ⟨RX11, "nearest", "(JJ)J"⟩
abbrev cX11_feed : ByteArray := prog_13_method_5_code
def yX11_feed : MethodName := ⟨RX11, "feed", "(IIIII)I"⟩
abbrev cX11_end : ByteArray := prog_13_method_6_code
def yX11_end : MethodName := ⟨RX11, "end", "(I)Z"⟩
abbrev cX11_next : ByteArray := prog_13_method_7_code
def yX11_next : MethodName := ⟨RX11, "next", "()V"⟩
abbrev cX11_isSign : ByteArray := prog_13_method_8_code
def yX11_isSign : MethodName := ⟨RX11, "isSign", "(I)Z"⟩
abbrev cX11_isNew : ByteArray := prog_13_method_9_code
def yX11_isNew : MethodName := ⟨RX11, "isNew", "()Z"⟩
abbrev cX11_form : ByteArray := prog_13_method_10_code
def yX11_form : MethodName := ⟨RX11, "form", "(I)Z"⟩
abbrev cX11_part : ByteArray := prog_13_method_11_code
def yX11_part : MethodName := ⟨RX11, "part", "()Z"⟩
abbrev cX11_whole : ByteArray := prog_13_method_12_code
def yX11_whole : MethodName := ⟨RX11, "whole", "()Z"⟩
abbrev cX11_reads : ByteArray := prog_13_method_13_code
def yX11_reads : MethodName := ⟨RX11, "reads", "()I"⟩
abbrev cX11_fault : ByteArray := prog_13_method_14_code
def yX11_fault : MethodName := ⟨RX11, "fault", "()I"⟩
abbrev cX11_rule : ByteArray := prog_13_method_15_code
def yX11_rule : MethodName := ⟨RX11, "rule", "()I"⟩
abbrev cX11_isTerm : ByteArray := prog_13_method_16_code
def yX11_isTerm : MethodName := ⟨RX11, "isTerm", "(II)Z"⟩
abbrev cX11_told : ByteArray := prog_13_method_17_code
def yX11_told : MethodName := ⟨RX11, "told", "(II)I"⟩
abbrev cX11_range : ByteArray := prog_13_method_18_code
def yX11_range : MethodName := ⟨RX11, "range", "(IIIII)I"⟩
abbrev cX11_valueOf : ByteArray := prog_13_method_19_code
def yX11_valueOf : MethodName := ⟨RX11, "valueOf", "(III)I"⟩
abbrev cX11_mark : ByteArray := prog_13_method_20_code
def yX11_mark : MethodName := ⟨RX11, "mark", "(III)I"⟩
abbrev cX11_isChart : ByteArray := prog_13_method_21_code
def yX11_isChart : MethodName := ⟨RX11, "isChart", "(I)Z"⟩
abbrev cX11_pagesOf : ByteArray := prog_13_method_22_code
def yX11_pagesOf : MethodName := ⟨RX11, "pagesOf", "(I)I"⟩
abbrev cX11_isModulus : ByteArray := prog_13_method_23_code
def yX11_isModulus : MethodName := ⟨RX11, "isModulus", "(I)Z"⟩
abbrev cX11_chart : ByteArray := prog_13_method_24_code
def yX11_chart : MethodName := ⟨RX11, "chart", "(IIIIII)I"⟩
abbrev cX11_reading : ByteArray := prog_13_method_25_code
def yX11_reading : MethodName := ⟨RX11, "reading", "(II)Z"⟩
abbrev cX11_cut : ByteArray := prog_13_method_26_code
def yX11_cut : MethodName := ⟨RX11, "cut", "(JI)J"⟩
abbrev cX11_swells : ByteArray := prog_13_method_27_code
def yX11_swells : MethodName := ⟨RX11, "swells", "(IJ)J"⟩
abbrev cX11_back : ByteArray := prog_13_method_28_code
def yX11_back : MethodName := ⟨RX11, "back", "(IJ)J"⟩
abbrev cX11_paper : ByteArray := prog_13_method_29_code
def yX11_paper : MethodName := ⟨RX11, "paper", "(IIII)Z"⟩
abbrev cX11_swelled : ByteArray := prog_13_method_30_code
def yX11_swelled : MethodName := ⟨RX11, "swelled", "(IIZ)I"⟩
abbrev cX11_numberOf : ByteArray := prog_13_method_31_code
def yX11_numberOf : MethodName := ⟨RX11, "numberOf", "(IIII)I"⟩
abbrev cX11_mid : ByteArray := prog_13_method_32_code
def yX11_mid : MethodName := ⟨RX11, "mid", "(II)I"⟩
abbrev cX11_sumAt : ByteArray := prog_13_method_33_code
def yX11_sumAt : MethodName := ⟨RX11, "sumAt", "(IIJ)J"⟩
abbrev cX11_goes : ByteArray := prog_13_method_34_code
def yX11_goes : MethodName := ⟨RX11, "goes", "(II)J"⟩
abbrev cX11_takes : ByteArray := prog_13_method_35_code
def yX11_takes : MethodName := ⟨RX11, "takes", "([II)V"⟩
abbrev cX11_tenths : ByteArray := prog_13_method_36_code
def yX11_tenths : MethodName := ⟨RX11, "tenths", "(IJ)I"⟩
abbrev cX11_read : ByteArray := prog_13_method_37_code
def yX11_read : MethodName := ⟨RX11, "read", "(II)I"⟩
abbrev cX11_lead : ByteArray := prog_13_method_38_code
def yX11_lead : MethodName := ⟨RX11, "lead", "(II)I"⟩
abbrev cX11_signed : ByteArray := prog_13_method_39_code
def yX11_signed : MethodName := ⟨RX11, "signed", "(III)J"⟩
abbrev cX11_spans : ByteArray := prog_13_method_40_code
def yX11_spans : MethodName := ⟨RX11, "spans", "(II)V"⟩
abbrev cX11_span : ByteArray := prog_13_method_41_code
def yX11_span : MethodName := ⟨RX11, "span", "(IZ)I"⟩
abbrev cX11_widest : ByteArray := prog_13_method_42_code
def yX11_widest : MethodName := ⟨RX11, "widest", "(II)J"⟩
abbrev cX11_sharpest : ByteArray := prog_13_method_43_code
def yX11_sharpest : MethodName := ⟨RX11, "sharpest", "(III)I"⟩
abbrev cX11_holds : ByteArray := prog_13_method_44_code
def yX11_holds : MethodName := ⟨RX11, "holds", "(J)V"⟩
abbrev cX11_tall : ByteArray := prog_13_method_45_code
def yX11_tall : MethodName := ⟨RX11, "tall", "(IIJJ)J"⟩
abbrev cX11_page : ByteArray := prog_13_method_46_code
def yX11_page : MethodName := ⟨RX11, "page", "(III)I"⟩
abbrev cX11_list : ByteArray := prog_13_method_47_code
def yX11_list : MethodName := ⟨RX11, "list", "(I)I"⟩
abbrev cX11_clear : ByteArray := prog_13_method_48_code
def yX11_clear : MethodName := ⟨RX11, "clear", "()I"⟩
abbrev cX11_finest : ByteArray := prog_13_method_49_code
def yX11_finest : MethodName := ⟨RX11, "finest", "(III)I"⟩
abbrev cX11_go : ByteArray := prog_13_method_50_code
def yX11_go : MethodName := ⟨RX11, "go", "(I)I"⟩
abbrev cX11_move : ByteArray := prog_13_method_51_code
def yX11_move : MethodName := ⟨RX11, "move", "(IIII)I"⟩
abbrev cX11_report : ByteArray := prog_13_method_52_code
def yX11_report : MethodName := ⟨RX11, "report", "(II)I"⟩
abbrev cX11_dueOf : ByteArray := prog_13_method_53_code
def yX11_dueOf : MethodName := ⟨RX11, "dueOf", "(I)I"⟩
abbrev cX11_habitOf : ByteArray := prog_13_method_54_code
def yX11_habitOf : MethodName := ⟨RX11, "habitOf", "(I)I"⟩
abbrev cX11_habit : ByteArray := prog_13_method_55_code
def yX11_habit : MethodName := ⟨RX11, "habit", "(I)I"⟩
abbrev cX11_stands : ByteArray := prog_13_method_56_code
def yX11_stands : MethodName := ⟨RX11, "stands", "(II)I"⟩
abbrev cX11_due : ByteArray := prog_13_method_57_code
def yX11_due : MethodName := ⟨RX11, "due", "(III)I"⟩
abbrev cX11_has : ByteArray := prog_13_method_58_code
def yX11_has : MethodName := ⟨RX11, "has", "(II)Z"⟩
abbrev cX11_bits : ByteArray := prog_13_method_59_code
def yX11_bits : MethodName := ⟨RX11, "bits", "(I)I"⟩
abbrev cX11_finds : ByteArray := prog_13_method_60_code
def yX11_finds : MethodName := ⟨RX11, "finds", "(II)Z"⟩
abbrev cX11_explains : ByteArray := prog_13_method_61_code
def yX11_explains : MethodName := ⟨RX11, "explains", "(I)Z"⟩
abbrev cX11_suspects : ByteArray := prog_13_method_62_code
def yX11_suspects : MethodName := ⟨RX11, "suspects", "(III)I"⟩
abbrev cX11_count : ByteArray := prog_13_method_63_code
def yX11_count : MethodName := ⟨RX11, "count", "(I)I"⟩
def RJx8e188 : String := "java/lang/Cloneable"
def TJx8e188 : u_T := fun k => match k with
  | _ => ("", "", "", false)
def tyJx8e188 : Nat → FieldType := fun k => match k with
  | _ => .int
theorem nmJx8e188 : ∀ a, a < 0 → ∀ b, b < 0 → a ≠ b → (TJx8e188 a).2.1 ≠ (TJx8e188 b).2.1 := by decide +kernel
theorem tyJx8e188_ok : ∀ k, k < 0 → parseFieldDescriptor (TJx8e188 k).2.2.1 = some (tyJx8e188 k) := by decide +kernel
def RJ6 : String := "java/lang/Integer"
def TJ6 : u_T := fun k => match k with
  | _ => ("", "", "", false)
def tyJ6 : Nat → FieldType := fun k => match k with
  | _ => .int
abbrev wsJ60 : List Cond := u_ws RJ6 TJ6 0
theorem nmJ6 : ∀ a, a < 0 → ∀ b, b < 0 → a ≠ b → (TJ6 a).2.1 ≠ (TJ6 b).2.1 := by decide +kernel
theorem tyJ6_ok : ∀ k, k < 0 → parseFieldDescriptor (TJ6 k).2.2.1 = some (tyJ6 k) := by decide +kernel
abbrev cJ6_bitCount_0f7a4 : ByteArray := prog_15_method_49_code
def yJ6_bitCount_0f7a4 : MethodName := ⟨RJ6, "bitCount", "(I)I"⟩
def RJ9 : String := "java/lang/Math"
def TJ9 : u_T := fun k => match k with
  | _ => ("", "", "", false)
def tyJ9 : Nat → FieldType := fun k => match k with
  | _ => .int
abbrev wsJ90 : List Cond := u_ws RJ9 TJ9 0
theorem nmJ9 : ∀ a, a < 0 → ∀ b, b < 0 → a ≠ b → (TJ9 a).2.1 ≠ (TJ9 b).2.1 := by decide +kernel
theorem tyJ9_ok : ∀ k, k < 0 → parseFieldDescriptor (TJ9 k).2.2.1 = some (tyJ9 k) := by decide +kernel
abbrev cJ9_floorDiv_f86c9 : ByteArray := prog_16_method_49_code
def yJ9_floorDiv_f86c9 : MethodName := ⟨RJ9, "floorDiv", "(JJ)J"⟩
abbrev cJ9_abs_0f7a4 : ByteArray := prog_16_method_59_code
def yJ9_abs_0f7a4 : MethodName := ⟨RJ9, "abs", "(I)I"⟩
abbrev cJ9_abs_067f4 : ByteArray := prog_16_method_61_code
def yJ9_abs_067f4 : MethodName := ⟨RJ9, "abs", "(J)J"⟩
abbrev cJ9_max_7cf53 : ByteArray := prog_16_method_65_code
def yJ9_max_7cf53 : MethodName := ⟨RJ9, "max", "(II)I"⟩
abbrev cJ9_max_f86c9 : ByteArray := prog_16_method_66_code
def yJ9_max_f86c9 : MethodName := ⟨RJ9, "max", "(JJ)J"⟩
abbrev cJ9_min_7cf53 : ByteArray := prog_16_method_69_code
def yJ9_min_7cf53 : MethodName := ⟨RJ9, "min", "(II)I"⟩
abbrev cJ9_min_f86c9 : ByteArray := prog_16_method_70_code
def yJ9_min_f86c9 : MethodName := ⟨RJ9, "min", "(JJ)J"⟩
def RJ7 : String := "java/util/Arrays"
def TJ7 : u_T := fun k => match k with
  | _ => ("", "", "", false)
def tyJ7 : Nat → FieldType := fun k => match k with
  | _ => .int
abbrev wsJ70 : List Cond := u_ws RJ7 TJ7 0
theorem nmJ7 : ∀ a, a < 0 → ∀ b, b < 0 → a ≠ b → (TJ7 a).2.1 ≠ (TJ7 b).2.1 := by decide +kernel
theorem tyJ7_ok : ∀ k, k < 0 → parseFieldDescriptor (TJ7 k).2.2.1 = some (tyJ7 k) := by decide +kernel
abbrev cJ7_fill_53178 : ByteArray := prog_17_method_103_code
def yJ7_fill_53178 : MethodName := ⟨RJ7, "fill", "([II)V"⟩
def RL : String := "ThreadChartsLaw"
abbrev cL_law : ByteArray := code
def yL_law : MethodName := ⟨RL, "law", "([I)Z"⟩
abbrev vwCl : List vw_C := [(RX0, TX0, 11), (RX1, TX1, 6), (RX2, TX2, 9), (RX3, TX3, 4), (RX4, TX4, 3), (RX5, TX5, 8), (RX6, TX6, 9), (RX7, TX7, 8), (RX8, TX8, 2), (RX9, TX9, 4), (RX10, TX10, 17), (RX11, TX11, 59)]
