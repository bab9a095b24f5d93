section
-- ===== PART A: goes FIRST, ahead of the names: the tables' words, and 'selects' of the private methods out of them =====
/-- a private method of a class that the tables say can be made, by its rows of tables_1 -/
def lw_okq (q : MethodName × Nat) : Prop := (q.1.cls ≠ "java/lang/invoke/MethodHandle" ∧ q.1.cls ≠ "java/lang/invoke/VarHandle") ∧ Cond.instantiable q.1.cls q.2 ∈ tables_1 ∧ Cond.privateMethod q.1 ∈ tables_1 ∧ Cond.instanceMethod q.1 ∈ tables_1
theorem lw_p0 : lw_okq (⟨"ThreadCharts$Text", "add", "(I)V"⟩, 2) := ⟨⟨by decide +kernel, by decide +kernel⟩, List.mem_of_getElem? (i := 25) (by decide +kernel), List.mem_of_getElem? (i := 284) (by decide +kernel), List.mem_of_getElem? (i := 285) (by decide +kernel)⟩
theorem lw_p1 : lw_okq (⟨"ThreadCharts$Parser", "faultOf", "(LThreadCharts$Text;)I"⟩, 8) := ⟨⟨by decide +kernel, by decide +kernel⟩, List.mem_of_getElem? (i := 41) (by decide +kernel), List.mem_of_getElem? (i := 296) (by decide +kernel), List.mem_of_getElem? (i := 297) (by decide +kernel)⟩
theorem lw_p2 : lw_okq (⟨"ThreadCharts$Parser", "startOver", "()V"⟩, 8) := ⟨⟨by decide +kernel, by decide +kernel⟩, List.mem_of_getElem? (i := 41) (by decide +kernel), List.mem_of_getElem? (i := 300) (by decide +kernel), List.mem_of_getElem? (i := 301) (by decide +kernel)⟩
theorem lw_p3 : lw_okq (⟨"ThreadCharts$Text", "byteAt", "(I)I"⟩, 2) := ⟨⟨by decide +kernel, by decide +kernel⟩, List.mem_of_getElem? (i := 25) (by decide +kernel), List.mem_of_getElem? (i := 304) (by decide +kernel), List.mem_of_getElem? (i := 305) (by decide +kernel)⟩
theorem lw_p4 : lw_okq (⟨"ThreadCharts$Parser", "takeNumber", "(I)V"⟩, 8) := ⟨⟨by decide +kernel, by decide +kernel⟩, List.mem_of_getElem? (i := 41) (by decide +kernel), List.mem_of_getElem? (i := 308) (by decide +kernel), List.mem_of_getElem? (i := 309) (by decide +kernel)⟩
theorem lw_p5 : lw_okq (⟨"ThreadCharts$Parser", "takes", "(I)Z"⟩, 8) := ⟨⟨by decide +kernel, by decide +kernel⟩, List.mem_of_getElem? (i := 41) (by decide +kernel), List.mem_of_getElem? (i := 312) (by decide +kernel), List.mem_of_getElem? (i := 313) (by decide +kernel)⟩
theorem lw_p6 : lw_okq (⟨"ThreadCharts$Parser", "beginsForm", "(I)Z"⟩, 8) := ⟨⟨by decide +kernel, by decide +kernel⟩, List.mem_of_getElem? (i := 41) (by decide +kernel), List.mem_of_getElem? (i := 316) (by decide +kernel), List.mem_of_getElem? (i := 317) (by decide +kernel)⟩
theorem lw_p7 : lw_okq (⟨"ThreadCharts$Parser", "goesOn", "(II)Z"⟩, 8) := ⟨⟨by decide +kernel, by decide +kernel⟩, List.mem_of_getElem? (i := 41) (by decide +kernel), List.mem_of_getElem? (i := 320) (by decide +kernel), List.mem_of_getElem? (i := 321) (by decide +kernel)⟩
theorem lw_p8 : lw_okq (⟨"ThreadCharts$Parser", "takesLetter", "(III)Z"⟩, 8) := ⟨⟨by decide +kernel, by decide +kernel⟩, List.mem_of_getElem? (i := 41) (by decide +kernel), List.mem_of_getElem? (i := 324) (by decide +kernel), List.mem_of_getElem? (i := 325) (by decide +kernel)⟩
theorem lw_p9 : lw_okq (⟨"ThreadCharts$Parser", "followsPart", "(I)Z"⟩, 8) := ⟨⟨by decide +kernel, by decide +kernel⟩, List.mem_of_getElem? (i := 41) (by decide +kernel), List.mem_of_getElem? (i := 328) (by decide +kernel), List.mem_of_getElem? (i := 329) (by decide +kernel)⟩
theorem lw_p10 : lw_okq (⟨"ThreadCharts$Parser", "squares", "(I)Z"⟩, 8) := ⟨⟨by decide +kernel, by decide +kernel⟩, List.mem_of_getElem? (i := 41) (by decide +kernel), List.mem_of_getElem? (i := 332) (by decide +kernel), List.mem_of_getElem? (i := 333) (by decide +kernel)⟩
theorem lw_p11 : lw_okq (⟨"ThreadCharts", "ruleAt", "(I)LThreadCharts$Rule;"⟩, 17) := ⟨⟨by decide +kernel, by decide +kernel⟩, List.mem_of_getElem? (i := 17) (by decide +kernel), List.mem_of_getElem? (i := 386) (by decide +kernel), List.mem_of_getElem? (i := 387) (by decide +kernel)⟩
theorem lw_p12 : lw_okq (⟨"ThreadCharts$Rule", "kindOf", "(I)I"⟩, 8) := ⟨⟨by decide +kernel, by decide +kernel⟩, List.mem_of_getElem? (i := 339) (by decide +kernel), List.mem_of_getElem? (i := 391) (by decide +kernel), List.mem_of_getElem? (i := 392) (by decide +kernel)⟩
theorem lw_p13 : lw_okq (⟨"ThreadCharts$Rule", "hasTerm", "(I)Z"⟩, 8) := ⟨⟨by decide +kernel, by decide +kernel⟩, List.mem_of_getElem? (i := 339) (by decide +kernel), List.mem_of_getElem? (i := 395) (by decide +kernel), List.mem_of_getElem? (i := 396) (by decide +kernel)⟩
theorem lw_p14 : lw_okq (⟨"ThreadCharts$Rule", "signOf", "(I)I"⟩, 8) := ⟨⟨by decide +kernel, by decide +kernel⟩, List.mem_of_getElem? (i := 339) (by decide +kernel), List.mem_of_getElem? (i := 400) (by decide +kernel), List.mem_of_getElem? (i := 401) (by decide +kernel)⟩
theorem lw_p15 : lw_okq (⟨"ThreadCharts$Rule", "canRange", "(IIII)Z"⟩, 8) := ⟨⟨by decide +kernel, by decide +kernel⟩, List.mem_of_getElem? (i := 339) (by decide +kernel), List.mem_of_getElem? (i := 408) (by decide +kernel), List.mem_of_getElem? (i := 409) (by decide +kernel)⟩
def lw_privs_1 : List (MethodName × Nat) := [(⟨"ThreadCharts$Text", "add", "(I)V"⟩, 2), (⟨"ThreadCharts$Parser", "faultOf", "(LThreadCharts$Text;)I"⟩, 8), (⟨"ThreadCharts$Parser", "startOver", "()V"⟩, 8), (⟨"ThreadCharts$Text", "byteAt", "(I)I"⟩, 2), (⟨"ThreadCharts$Parser", "takeNumber", "(I)V"⟩, 8), (⟨"ThreadCharts$Parser", "takes", "(I)Z"⟩, 8), (⟨"ThreadCharts$Parser", "beginsForm", "(I)Z"⟩, 8), (⟨"ThreadCharts$Parser", "goesOn", "(II)Z"⟩, 8), (⟨"ThreadCharts$Parser", "takesLetter", "(III)Z"⟩, 8), (⟨"ThreadCharts$Parser", "followsPart", "(I)Z"⟩, 8), (⟨"ThreadCharts$Parser", "squares", "(I)Z"⟩, 8), (⟨"ThreadCharts", "ruleAt", "(I)LThreadCharts$Rule;"⟩, 17), (⟨"ThreadCharts$Rule", "kindOf", "(I)I"⟩, 8), (⟨"ThreadCharts$Rule", "hasTerm", "(I)Z"⟩, 8), (⟨"ThreadCharts$Rule", "signOf", "(I)I"⟩, 8), (⟨"ThreadCharts$Rule", "canRange", "(IIII)Z"⟩, 8)]
theorem lw_r1 : ∀ q ∈ lw_privs_1, lw_okq q := List.forall_mem_cons.mpr ⟨lw_p0, List.forall_mem_cons.mpr ⟨lw_p1, List.forall_mem_cons.mpr ⟨lw_p2, List.forall_mem_cons.mpr ⟨lw_p3, List.forall_mem_cons.mpr ⟨lw_p4, List.forall_mem_cons.mpr ⟨lw_p5, List.forall_mem_cons.mpr ⟨lw_p6, List.forall_mem_cons.mpr ⟨lw_p7, List.forall_mem_cons.mpr ⟨lw_p8, List.forall_mem_cons.mpr ⟨lw_p9, List.forall_mem_cons.mpr ⟨lw_p10, List.forall_mem_cons.mpr ⟨lw_p11, List.forall_mem_cons.mpr ⟨lw_p12, List.forall_mem_cons.mpr ⟨lw_p13, List.forall_mem_cons.mpr ⟨lw_p14, List.forall_mem_cons.mpr ⟨lw_p15, fun _ h => absurd h List.not_mem_nil⟩⟩⟩⟩⟩⟩⟩⟩⟩⟩⟩⟩⟩⟩⟩⟩
theorem lw_p16 : lw_okq (⟨"ThreadCharts$Rule", "putRange", "(IIII)V"⟩, 8) := ⟨⟨by decide +kernel, by decide +kernel⟩, List.mem_of_getElem? (i := 339) (by decide +kernel), List.mem_of_getElem? (i := 418) (by decide +kernel), List.mem_of_getElem? (i := 419) (by decide +kernel)⟩
theorem lw_p17 : lw_okq (⟨"ThreadCharts$Rule", "putOnScale", "(I)V"⟩, 8) := ⟨⟨by decide +kernel, by decide +kernel⟩, List.mem_of_getElem? (i := 339) (by decide +kernel), List.mem_of_getElem? (i := 434) (by decide +kernel), List.mem_of_getElem? (i := 435) (by decide +kernel)⟩
theorem lw_p18 : lw_okq (⟨"ThreadCharts$Rule", "hasMark", "(II)Z"⟩, 8) := ⟨⟨by decide +kernel, by decide +kernel⟩, List.mem_of_getElem? (i := 339) (by decide +kernel), List.mem_of_getElem? (i := 442) (by decide +kernel), List.mem_of_getElem? (i := 443) (by decide +kernel)⟩
theorem lw_p19 : lw_okq (⟨"ThreadCharts$Rule", "numberOf", "(II)I"⟩, 8) := ⟨⟨by decide +kernel, by decide +kernel⟩, List.mem_of_getElem? (i := 339) (by decide +kernel), List.mem_of_getElem? (i := 446) (by decide +kernel), List.mem_of_getElem? (i := 447) (by decide +kernel)⟩
theorem lw_p20 : lw_okq (⟨"ThreadCharts$Rule", "hasAllRanges", "()Z"⟩, 8) := ⟨⟨by decide +kernel, by decide +kernel⟩, List.mem_of_getElem? (i := 339) (by decide +kernel), List.mem_of_getElem? (i := 455) (by decide +kernel), List.mem_of_getElem? (i := 456) (by decide +kernel)⟩
theorem lw_p21 : lw_okq (⟨"ThreadCharts$Rule", "isOrder", "(I)Z"⟩, 8) := ⟨⟨by decide +kernel, by decide +kernel⟩, List.mem_of_getElem? (i := 339) (by decide +kernel), List.mem_of_getElem? (i := 459) (by decide +kernel), List.mem_of_getElem? (i := 460) (by decide +kernel)⟩
theorem lw_p22 : lw_okq (⟨"ThreadCharts$Chart", "putOrder", "(I)V"⟩, 11) := ⟨⟨by decide +kernel, by decide +kernel⟩, List.mem_of_getElem? (i := 465) (by decide +kernel), List.mem_of_getElem? (i := 540) (by decide +kernel), List.mem_of_getElem? (i := 541) (by decide +kernel)⟩
theorem lw_p23 : lw_okq (⟨"ThreadCharts$Rule", "leastOf", "(I)I"⟩, 8) := ⟨⟨by decide +kernel, by decide +kernel⟩, List.mem_of_getElem? (i := 339) (by decide +kernel), List.mem_of_getElem? (i := 544) (by decide +kernel), List.mem_of_getElem? (i := 545) (by decide +kernel)⟩
theorem lw_p24 : lw_okq (⟨"ThreadCharts$Rule", "signedOf", "(II)I"⟩, 8) := ⟨⟨by decide +kernel, by decide +kernel⟩, List.mem_of_getElem? (i := 339) (by decide +kernel), List.mem_of_getElem? (i := 548) (by decide +kernel), List.mem_of_getElem? (i := 549) (by decide +kernel)⟩
theorem lw_p25 : lw_okq (⟨"ThreadCharts$Rule", "lastMarkOf", "(I)I"⟩, 8) := ⟨⟨by decide +kernel, by decide +kernel⟩, List.mem_of_getElem? (i := 339) (by decide +kernel), List.mem_of_getElem? (i := 552) (by decide +kernel), List.mem_of_getElem? (i := 553) (by decide +kernel)⟩
theorem lw_p26 : lw_okq (⟨"ThreadCharts$Rule", "greatestOf", "(I)I"⟩, 8) := ⟨⟨by decide +kernel, by decide +kernel⟩, List.mem_of_getElem? (i := 339) (by decide +kernel), List.mem_of_getElem? (i := 557) (by decide +kernel), List.mem_of_getElem? (i := 558) (by decide +kernel)⟩
theorem lw_p27 : lw_okq (⟨"ThreadCharts$Chart", "putModuli", "(II)V"⟩, 11) := ⟨⟨by decide +kernel, by decide +kernel⟩, List.mem_of_getElem? (i := 465) (by decide +kernel), List.mem_of_getElem? (i := 564) (by decide +kernel), List.mem_of_getElem? (i := 565) (by decide +kernel)⟩
theorem lw_p28 : lw_okq (⟨"ThreadCharts$Chart", "hasPage", "(I)Z"⟩, 11) := ⟨⟨by decide +kernel, by decide +kernel⟩, List.mem_of_getElem? (i := 465) (by decide +kernel), List.mem_of_getElem? (i := 568) (by decide +kernel), List.mem_of_getElem? (i := 569) (by decide +kernel)⟩
theorem lw_p29 : lw_okq (⟨"ThreadCharts", "chartAt", "(I)LThreadCharts$Chart;"⟩, 17) := ⟨⟨by decide +kernel, by decide +kernel⟩, List.mem_of_getElem? (i := 17) (by decide +kernel), List.mem_of_getElem? (i := 576) (by decide +kernel), List.mem_of_getElem? (i := 577) (by decide +kernel)⟩
theorem lw_p30 : lw_okq (⟨"ThreadCharts$Chart", "hasMarks", "(I)Z"⟩, 11) := ⟨⟨by decide +kernel, by decide +kernel⟩, List.mem_of_getElem? (i := 465) (by decide +kernel), List.mem_of_getElem? (i := 580) (by decide +kernel), List.mem_of_getElem? (i := 581) (by decide +kernel)⟩
theorem lw_p31 : lw_okq (⟨"ThreadCharts", "readAsKnown", "(LThreadCharts$Chart;II)J"⟩, 17) := ⟨⟨by decide +kernel, by decide +kernel⟩, List.mem_of_getElem? (i := 17) (by decide +kernel), List.mem_of_getElem? (i := 589) (by decide +kernel), List.mem_of_getElem? (i := 590) (by decide +kernel)⟩
def lw_privs_2 : List (MethodName × Nat) := [(⟨"ThreadCharts$Rule", "putRange", "(IIII)V"⟩, 8), (⟨"ThreadCharts$Rule", "putOnScale", "(I)V"⟩, 8), (⟨"ThreadCharts$Rule", "hasMark", "(II)Z"⟩, 8), (⟨"ThreadCharts$Rule", "numberOf", "(II)I"⟩, 8), (⟨"ThreadCharts$Rule", "hasAllRanges", "()Z"⟩, 8), (⟨"ThreadCharts$Rule", "isOrder", "(I)Z"⟩, 8), (⟨"ThreadCharts$Chart", "putOrder", "(I)V"⟩, 11), (⟨"ThreadCharts$Rule", "leastOf", "(I)I"⟩, 8), (⟨"ThreadCharts$Rule", "signedOf", "(II)I"⟩, 8), (⟨"ThreadCharts$Rule", "lastMarkOf", "(I)I"⟩, 8), (⟨"ThreadCharts$Rule", "greatestOf", "(I)I"⟩, 8), (⟨"ThreadCharts$Chart", "putModuli", "(II)V"⟩, 11), (⟨"ThreadCharts$Chart", "hasPage", "(I)Z"⟩, 11), (⟨"ThreadCharts", "chartAt", "(I)LThreadCharts$Chart;"⟩, 17), (⟨"ThreadCharts$Chart", "hasMarks", "(I)Z"⟩, 11), (⟨"ThreadCharts", "readAsKnown", "(LThreadCharts$Chart;II)J"⟩, 17)]
theorem lw_r2 : ∀ q ∈ lw_privs_2, lw_okq q := List.forall_mem_cons.mpr ⟨lw_p16, List.forall_mem_cons.mpr ⟨lw_p17, List.forall_mem_cons.mpr ⟨lw_p18, List.forall_mem_cons.mpr ⟨lw_p19, List.forall_mem_cons.mpr ⟨lw_p20, List.forall_mem_cons.mpr ⟨lw_p21, List.forall_mem_cons.mpr ⟨lw_p22, List.forall_mem_cons.mpr ⟨lw_p23, List.forall_mem_cons.mpr ⟨lw_p24, List.forall_mem_cons.mpr ⟨lw_p25, List.forall_mem_cons.mpr ⟨lw_p26, List.forall_mem_cons.mpr ⟨lw_p27, List.forall_mem_cons.mpr ⟨lw_p28, List.forall_mem_cons.mpr ⟨lw_p29, List.forall_mem_cons.mpr ⟨lw_p30, List.forall_mem_cons.mpr ⟨lw_p31, fun _ h => absurd h List.not_mem_nil⟩⟩⟩⟩⟩⟩⟩⟩⟩⟩⟩⟩⟩⟩⟩⟩
theorem lw_p32 : lw_okq (⟨"ThreadCharts", "layAsKnown", "(LThreadCharts$Chart;II)V"⟩, 17) := ⟨⟨by decide +kernel, by decide +kernel⟩, List.mem_of_getElem? (i := 17) (by decide +kernel), List.mem_of_getElem? (i := 593) (by decide +kernel), List.mem_of_getElem? (i := 594) (by decide +kernel)⟩
theorem lw_p33 : lw_okq (⟨"ThreadCharts$Chart", "markAt", "(II)I"⟩, 11) := ⟨⟨by decide +kernel, by decide +kernel⟩, List.mem_of_getElem? (i := 465) (by decide +kernel), List.mem_of_getElem? (i := 597) (by decide +kernel), List.mem_of_getElem? (i := 598) (by decide +kernel)⟩
theorem lw_p34 : lw_okq (⟨"ThreadCharts$Errata", "numberOn", "(IIII)I"⟩, 6) := ⟨⟨by decide +kernel, by decide +kernel⟩, List.mem_of_getElem? (i := 81) (by decide +kernel), List.mem_of_getElem? (i := 601) (by decide +kernel), List.mem_of_getElem? (i := 602) (by decide +kernel)⟩
theorem lw_p35 : lw_okq (⟨"ThreadCharts$Walk", "along", "(LThreadCharts$Chart;[JI)V"⟩, 4) := ⟨⟨by decide +kernel, by decide +kernel⟩, List.mem_of_getElem? (i := 147) (by decide +kernel), List.mem_of_getElem? (i := 607) (by decide +kernel), List.mem_of_getElem? (i := 608) (by decide +kernel)⟩
theorem lw_p36 : lw_okq (⟨"ThreadCharts$Paper", "lies", "(J)J"⟩, 3) := ⟨⟨by decide +kernel, by decide +kernel⟩, List.mem_of_getElem? (i := 474) (by decide +kernel), List.mem_of_getElem? (i := 611) (by decide +kernel), List.mem_of_getElem? (i := 612) (by decide +kernel)⟩
theorem lw_p37 : lw_okq (⟨"ThreadCharts$Chart", "meets", "(IJJ)J"⟩, 11) := ⟨⟨by decide +kernel, by decide +kernel⟩, List.mem_of_getElem? (i := 465) (by decide +kernel), List.mem_of_getElem? (i := 616) (by decide +kernel), List.mem_of_getElem? (i := 617) (by decide +kernel)⟩
theorem lw_p38 : lw_okq (⟨"ThreadCharts$Chart", "midOf", "(I)J"⟩, 11) := ⟨⟨by decide +kernel, by decide +kernel⟩, List.mem_of_getElem? (i := 465) (by decide +kernel), List.mem_of_getElem? (i := 620) (by decide +kernel), List.mem_of_getElem? (i := 621) (by decide +kernel)⟩
theorem lw_p39 : lw_okq (⟨"ThreadCharts$Paper", "placeReadAt", "(J)J"⟩, 3) := ⟨⟨by decide +kernel, by decide +kernel⟩, List.mem_of_getElem? (i := 474) (by decide +kernel), List.mem_of_getElem? (i := 625) (by decide +kernel), List.mem_of_getElem? (i := 626) (by decide +kernel)⟩
theorem lw_p40 : lw_okq (⟨"ThreadCharts$Chart", "sumAt", "(IJ)J"⟩, 11) := ⟨⟨by decide +kernel, by decide +kernel⟩, List.mem_of_getElem? (i := 465) (by decide +kernel), List.mem_of_getElem? (i := 636) (by decide +kernel), List.mem_of_getElem? (i := 637) (by decide +kernel)⟩
theorem lw_p41 : lw_okq (⟨"ThreadCharts$Rule", "tenthsOf", "(J)I"⟩, 8) := ⟨⟨by decide +kernel, by decide +kernel⟩, List.mem_of_getElem? (i := 339) (by decide +kernel), List.mem_of_getElem? (i := 640) (by decide +kernel), List.mem_of_getElem? (i := 641) (by decide +kernel)⟩
theorem lw_p42 : lw_okq (⟨"ThreadCharts", "exactSum", "(LThreadCharts$Chart;)I"⟩, 17) := ⟨⟨by decide +kernel, by decide +kernel⟩, List.mem_of_getElem? (i := 17) (by decide +kernel), List.mem_of_getElem? (i := 645) (by decide +kernel), List.mem_of_getElem? (i := 646) (by decide +kernel)⟩
theorem lw_p43 : lw_okq (⟨"ThreadCharts", "layAsCut", "(LThreadCharts$Chart;I)V"⟩, 17) := ⟨⟨by decide +kernel, by decide +kernel⟩, List.mem_of_getElem? (i := 17) (by decide +kernel), List.mem_of_getElem? (i := 649) (by decide +kernel), List.mem_of_getElem? (i := 650) (by decide +kernel)⟩
theorem lw_p44 : lw_okq (⟨"ThreadCharts$Chart", "lastSumOnFlat", "([JI)J"⟩, 11) := ⟨⟨by decide +kernel, by decide +kernel⟩, List.mem_of_getElem? (i := 465) (by decide +kernel), List.mem_of_getElem? (i := 665) (by decide +kernel), List.mem_of_getElem? (i := 666) (by decide +kernel)⟩
theorem lw_p45 : lw_okq (⟨"ThreadCharts$Chart", "tallWith", "(III)J"⟩, 11) := ⟨⟨by decide +kernel, by decide +kernel⟩, List.mem_of_getElem? (i := 465) (by decide +kernel), List.mem_of_getElem? (i := 676) (by decide +kernel), List.mem_of_getElem? (i := 677) (by decide +kernel)⟩
theorem lw_p46 : lw_okq (⟨"ThreadCharts$OrderSearch", "look", "(LThreadCharts$Chart;I)V"⟩, 4) := ⟨⟨by decide +kernel, by decide +kernel⟩, List.mem_of_getElem? (i := 171) (by decide +kernel), List.mem_of_getElem? (i := 693) (by decide +kernel), List.mem_of_getElem? (i := 694) (by decide +kernel)⟩
theorem lw_p47 : lw_okq (⟨"ThreadCharts$OrderSearch", "greatestWidth", "(LThreadCharts$Chart;I)J"⟩, 4) := ⟨⟨by decide +kernel, by decide +kernel⟩, List.mem_of_getElem? (i := 171) (by decide +kernel), List.mem_of_getElem? (i := 697) (by decide +kernel), List.mem_of_getElem? (i := 698) (by decide +kernel)⟩
def lw_privs_3 : List (MethodName × Nat) := [(⟨"ThreadCharts", "layAsKnown", "(LThreadCharts$Chart;II)V"⟩, 17), (⟨"ThreadCharts$Chart", "markAt", "(II)I"⟩, 11), (⟨"ThreadCharts$Errata", "numberOn", "(IIII)I"⟩, 6), (⟨"ThreadCharts$Walk", "along", "(LThreadCharts$Chart;[JI)V"⟩, 4), (⟨"ThreadCharts$Paper", "lies", "(J)J"⟩, 3), (⟨"ThreadCharts$Chart", "meets", "(IJJ)J"⟩, 11), (⟨"ThreadCharts$Chart", "midOf", "(I)J"⟩, 11), (⟨"ThreadCharts$Paper", "placeReadAt", "(J)J"⟩, 3), (⟨"ThreadCharts$Chart", "sumAt", "(IJ)J"⟩, 11), (⟨"ThreadCharts$Rule", "tenthsOf", "(J)I"⟩, 8), (⟨"ThreadCharts", "exactSum", "(LThreadCharts$Chart;)I"⟩, 17), (⟨"ThreadCharts", "layAsCut", "(LThreadCharts$Chart;I)V"⟩, 17), (⟨"ThreadCharts$Chart", "lastSumOnFlat", "([JI)J"⟩, 11), (⟨"ThreadCharts$Chart", "tallWith", "(III)J"⟩, 11), (⟨"ThreadCharts$OrderSearch", "look", "(LThreadCharts$Chart;I)V"⟩, 4), (⟨"ThreadCharts$OrderSearch", "greatestWidth", "(LThreadCharts$Chart;I)J"⟩, 4)]
theorem lw_r3 : ∀ q ∈ lw_privs_3, lw_okq q := List.forall_mem_cons.mpr ⟨lw_p32, List.forall_mem_cons.mpr ⟨lw_p33, List.forall_mem_cons.mpr ⟨lw_p34, List.forall_mem_cons.mpr ⟨lw_p35, List.forall_mem_cons.mpr ⟨lw_p36, List.forall_mem_cons.mpr ⟨lw_p37, List.forall_mem_cons.mpr ⟨lw_p38, List.forall_mem_cons.mpr ⟨lw_p39, List.forall_mem_cons.mpr ⟨lw_p40, List.forall_mem_cons.mpr ⟨lw_p41, List.forall_mem_cons.mpr ⟨lw_p42, List.forall_mem_cons.mpr ⟨lw_p43, List.forall_mem_cons.mpr ⟨lw_p44, List.forall_mem_cons.mpr ⟨lw_p45, List.forall_mem_cons.mpr ⟨lw_p46, List.forall_mem_cons.mpr ⟨lw_p47, fun _ h => absurd h List.not_mem_nil⟩⟩⟩⟩⟩⟩⟩⟩⟩⟩⟩⟩⟩⟩⟩⟩
theorem lw_p48 : lw_okq (⟨"ThreadCharts$OrderSearch", "digitsOfTried", "(I)I"⟩, 4) := ⟨⟨by decide +kernel, by decide +kernel⟩, List.mem_of_getElem? (i := 171) (by decide +kernel), List.mem_of_getElem? (i := 705) (by decide +kernel), List.mem_of_getElem? (i := 706) (by decide +kernel)⟩
theorem lw_p49 : lw_okq (⟨"ThreadCharts$OrderSearch", "goToNext", "(I)Z"⟩, 4) := ⟨⟨by decide +kernel, by decide +kernel⟩, List.mem_of_getElem? (i := 171) (by decide +kernel), List.mem_of_getElem? (i := 709) (by decide +kernel), List.mem_of_getElem? (i := 710) (by decide +kernel)⟩
theorem lw_p50 : lw_okq (⟨"ThreadCharts$OrderSearch", "swap", "(II)V"⟩, 4) := ⟨⟨by decide +kernel, by decide +kernel⟩, List.mem_of_getElem? (i := 171) (by decide +kernel), List.mem_of_getElem? (i := 713) (by decide +kernel), List.mem_of_getElem? (i := 714) (by decide +kernel)⟩
theorem lw_p51 : lw_okq (⟨"ThreadCharts", "isListed", "(I)Z"⟩, 17) := ⟨⟨by decide +kernel, by decide +kernel⟩, List.mem_of_getElem? (i := 17) (by decide +kernel), List.mem_of_getElem? (i := 721) (by decide +kernel), List.mem_of_getElem? (i := 722) (by decide +kernel)⟩
theorem lw_p52 : lw_okq (⟨"ThreadCharts$Chart", "finestOf", "(II[II)I"⟩, 11) := ⟨⟨by decide +kernel, by decide +kernel⟩, List.mem_of_getElem? (i := 465) (by decide +kernel), List.mem_of_getElem? (i := 733) (by decide +kernel), List.mem_of_getElem? (i := 734) (by decide +kernel)⟩
theorem lw_p53 : lw_okq (⟨"ThreadCharts$Paper", "put", "(III)V"⟩, 3) := ⟨⟨by decide +kernel, by decide +kernel⟩, List.mem_of_getElem? (i := 474) (by decide +kernel), List.mem_of_getElem? (i := 748) (by decide +kernel), List.mem_of_getElem? (i := 749) (by decide +kernel)⟩
theorem lw_p54 : lw_okq (⟨"ThreadCharts$Reports", "forgetDues", "()V"⟩, 9) := ⟨⟨by decide +kernel, by decide +kernel⟩, List.mem_of_getElem? (i := 107) (by decide +kernel), List.mem_of_getElem? (i := 752) (by decide +kernel), List.mem_of_getElem? (i := 753) (by decide +kernel)⟩
theorem lw_p55 : lw_okq (⟨"ThreadCharts$Errata", "isFull", "()Z"⟩, 6) := ⟨⟨by decide +kernel, by decide +kernel⟩, List.mem_of_getElem? (i := 81) (by decide +kernel), List.mem_of_getElem? (i := 773) (by decide +kernel), List.mem_of_getElem? (i := 774) (by decide +kernel)⟩
theorem lw_p56 : lw_okq (⟨"ThreadCharts$Errata", "add", "(IIIII)V"⟩, 6) := ⟨⟨by decide +kernel, by decide +kernel⟩, List.mem_of_getElem? (i := 81) (by decide +kernel), List.mem_of_getElem? (i := 779) (by decide +kernel), List.mem_of_getElem? (i := 780) (by decide +kernel)⟩
theorem lw_p57 : lw_okq (⟨"ThreadCharts$Reports", "isFull", "()Z"⟩, 9) := ⟨⟨by decide +kernel, by decide +kernel⟩, List.mem_of_getElem? (i := 107) (by decide +kernel), List.mem_of_getElem? (i := 791) (by decide +kernel), List.mem_of_getElem? (i := 792) (by decide +kernel)⟩
theorem lw_p58 : lw_okq (⟨"ThreadCharts$Reports", "add", "(IIIII)V"⟩, 9) := ⟨⟨by decide +kernel, by decide +kernel⟩, List.mem_of_getElem? (i := 107) (by decide +kernel), List.mem_of_getElem? (i := 795) (by decide +kernel), List.mem_of_getElem? (i := 796) (by decide +kernel)⟩
theorem lw_p59 : lw_okq (⟨"ThreadCharts$Reports", "has", "(I)Z"⟩, 9) := ⟨⟨by decide +kernel, by decide +kernel⟩, List.mem_of_getElem? (i := 107) (by decide +kernel), List.mem_of_getElem? (i := 804) (by decide +kernel), List.mem_of_getElem? (i := 805) (by decide +kernel)⟩
theorem lw_p60 : lw_okq (⟨"ThreadCharts", "refreshDues", "()V"⟩, 17) := ⟨⟨by decide +kernel, by decide +kernel⟩, List.mem_of_getElem? (i := 17) (by decide +kernel), List.mem_of_getElem? (i := 811) (by decide +kernel), List.mem_of_getElem? (i := 812) (by decide +kernel)⟩
theorem lw_p61 : lw_okq (⟨"ThreadCharts$Reports", "isBad", "(II)Z"⟩, 9) := ⟨⟨by decide +kernel, by decide +kernel⟩, List.mem_of_getElem? (i := 107) (by decide +kernel), List.mem_of_getElem? (i := 815) (by decide +kernel), List.mem_of_getElem? (i := 816) (by decide +kernel)⟩
theorem lw_p62 : lw_okq (⟨"ThreadCharts$Reports", "habitOf", "(I)I"⟩, 9) := ⟨⟨by decide +kernel, by decide +kernel⟩, List.mem_of_getElem? (i := 107) (by decide +kernel), List.mem_of_getElem? (i := 820) (by decide +kernel), List.mem_of_getElem? (i := 821) (by decide +kernel)⟩
theorem lw_p63 : lw_okq (⟨"ThreadCharts", "sortReports", "(LThreadCharts$Chart;I)V"⟩, 17) := ⟨⟨by decide +kernel, by decide +kernel⟩, List.mem_of_getElem? (i := 17) (by decide +kernel), List.mem_of_getElem? (i := 839) (by decide +kernel), List.mem_of_getElem? (i := 840) (by decide +kernel)⟩
def lw_privs_4 : List (MethodName × Nat) := [(⟨"ThreadCharts$OrderSearch", "digitsOfTried", "(I)I"⟩, 4), (⟨"ThreadCharts$OrderSearch", "goToNext", "(I)Z"⟩, 4), (⟨"ThreadCharts$OrderSearch", "swap", "(II)V"⟩, 4), (⟨"ThreadCharts", "isListed", "(I)Z"⟩, 17), (⟨"ThreadCharts$Chart", "finestOf", "(II[II)I"⟩, 11), (⟨"ThreadCharts$Paper", "put", "(III)V"⟩, 3), (⟨"ThreadCharts$Reports", "forgetDues", "()V"⟩, 9), (⟨"ThreadCharts$Errata", "isFull", "()Z"⟩, 6), (⟨"ThreadCharts$Errata", "add", "(IIIII)V"⟩, 6), (⟨"ThreadCharts$Reports", "isFull", "()Z"⟩, 9), (⟨"ThreadCharts$Reports", "add", "(IIIII)V"⟩, 9), (⟨"ThreadCharts$Reports", "has", "(I)Z"⟩, 9), (⟨"ThreadCharts", "refreshDues", "()V"⟩, 17), (⟨"ThreadCharts$Reports", "isBad", "(II)Z"⟩, 9), (⟨"ThreadCharts$Reports", "habitOf", "(I)I"⟩, 9), (⟨"ThreadCharts", "sortReports", "(LThreadCharts$Chart;I)V"⟩, 17)]
theorem lw_r4 : ∀ q ∈ lw_privs_4, lw_okq q := List.forall_mem_cons.mpr ⟨lw_p48, List.forall_mem_cons.mpr ⟨lw_p49, List.forall_mem_cons.mpr ⟨lw_p50, List.forall_mem_cons.mpr ⟨lw_p51, List.forall_mem_cons.mpr ⟨lw_p52, List.forall_mem_cons.mpr ⟨lw_p53, List.forall_mem_cons.mpr ⟨lw_p54, List.forall_mem_cons.mpr ⟨lw_p55, List.forall_mem_cons.mpr ⟨lw_p56, List.forall_mem_cons.mpr ⟨lw_p57, List.forall_mem_cons.mpr ⟨lw_p58, List.forall_mem_cons.mpr ⟨lw_p59, List.forall_mem_cons.mpr ⟨lw_p60, List.forall_mem_cons.mpr ⟨lw_p61, List.forall_mem_cons.mpr ⟨lw_p62, List.forall_mem_cons.mpr ⟨lw_p63, fun _ h => absurd h List.not_mem_nil⟩⟩⟩⟩⟩⟩⟩⟩⟩⟩⟩⟩⟩⟩⟩⟩
theorem lw_p64 : lw_okq (⟨"ThreadCharts$HeapSearch", "startOver", "()V"⟩, 9) := ⟨⟨by decide +kernel, by decide +kernel⟩, List.mem_of_getElem? (i := 192) (by decide +kernel), List.mem_of_getElem? (i := 843) (by decide +kernel), List.mem_of_getElem? (i := 844) (by decide +kernel)⟩
theorem lw_p65 : lw_okq (⟨"ThreadCharts$HeapSearch", "add", "(LThreadCharts$Chart;IZ)V"⟩, 9) := ⟨⟨by decide +kernel, by decide +kernel⟩, List.mem_of_getElem? (i := 192) (by decide +kernel), List.mem_of_getElem? (i := 848) (by decide +kernel), List.mem_of_getElem? (i := 849) (by decide +kernel)⟩
theorem lw_p66 : lw_okq (⟨"ThreadCharts$HeapSearch", "look", "(I)Z"⟩, 9) := ⟨⟨by decide +kernel, by decide +kernel⟩, List.mem_of_getElem? (i := 192) (by decide +kernel), List.mem_of_getElem? (i := 854) (by decide +kernel), List.mem_of_getElem? (i := 855) (by decide +kernel)⟩
theorem lw_p67 : lw_okq (⟨"ThreadCharts$HeapSearch", "findCandidates", "()Z"⟩, 9) := ⟨⟨by decide +kernel, by decide +kernel⟩, List.mem_of_getElem? (i := 192) (by decide +kernel), List.mem_of_getElem? (i := 858) (by decide +kernel), List.mem_of_getElem? (i := 859) (by decide +kernel)⟩
theorem lw_p68 : lw_okq (⟨"ThreadCharts$HeapSearch", "weighBadOnes", "(I)Z"⟩, 9) := ⟨⟨by decide +kernel, by decide +kernel⟩, List.mem_of_getElem? (i := 192) (by decide +kernel), List.mem_of_getElem? (i := 862) (by decide +kernel), List.mem_of_getElem? (i := 863) (by decide +kernel)⟩
theorem lw_p69 : lw_okq (⟨"ThreadCharts$HeapSearch", "bitOf", "(I)I"⟩, 9) := ⟨⟨by decide +kernel, by decide +kernel⟩, List.mem_of_getElem? (i := 192) (by decide +kernel), List.mem_of_getElem? (i := 866) (by decide +kernel), List.mem_of_getElem? (i := 867) (by decide +kernel)⟩
theorem lw_p70 : lw_okq (⟨"ThreadCharts$HeapSearch", "hitsAllBadOnes", "(I)Z"⟩, 9) := ⟨⟨by decide +kernel, by decide +kernel⟩, List.mem_of_getElem? (i := 192) (by decide +kernel), List.mem_of_getElem? (i := 876) (by decide +kernel), List.mem_of_getElem? (i := 877) (by decide +kernel)⟩
theorem lw_p71 : lw_okq (⟨"ThreadCharts$HeapSearch", "suspectOfFirst", "(I)I"⟩, 9) := ⟨⟨by decide +kernel, by decide +kernel⟩, List.mem_of_getElem? (i := 192) (by decide +kernel), List.mem_of_getElem? (i := 880) (by decide +kernel), List.mem_of_getElem? (i := 881) (by decide +kernel)⟩
theorem lw_p72 : lw_okq (⟨"ThreadChartsModel", "reads", "()I"⟩, 59) := ⟨⟨by decide +kernel, by decide +kernel⟩, List.mem_of_getElem? (i := 888) (by decide +kernel), List.mem_of_getElem? (i := 1087) (by decide +kernel), List.mem_of_getElem? (i := 1088) (by decide +kernel)⟩
theorem lw_p73 : lw_okq (⟨"ThreadChartsModel", "next", "()V"⟩, 59) := ⟨⟨by decide +kernel, by decide +kernel⟩, List.mem_of_getElem? (i := 888) (by decide +kernel), List.mem_of_getElem? (i := 1091) (by decide +kernel), List.mem_of_getElem? (i := 1092) (by decide +kernel)⟩
theorem lw_p74 : lw_okq (⟨"ThreadChartsModel", "whole", "()Z"⟩, 59) := ⟨⟨by decide +kernel, by decide +kernel⟩, List.mem_of_getElem? (i := 888) (by decide +kernel), List.mem_of_getElem? (i := 1096) (by decide +kernel), List.mem_of_getElem? (i := 1097) (by decide +kernel)⟩
theorem lw_p75 : lw_okq (⟨"ThreadChartsModel", "form", "(I)Z"⟩, 59) := ⟨⟨by decide +kernel, by decide +kernel⟩, List.mem_of_getElem? (i := 888) (by decide +kernel), List.mem_of_getElem? (i := 1100) (by decide +kernel), List.mem_of_getElem? (i := 1101) (by decide +kernel)⟩
theorem lw_p76 : lw_okq (⟨"ThreadChartsModel", "isSign", "(I)Z"⟩, 59) := ⟨⟨by decide +kernel, by decide +kernel⟩, List.mem_of_getElem? (i := 888) (by decide +kernel), List.mem_of_getElem? (i := 1104) (by decide +kernel), List.mem_of_getElem? (i := 1105) (by decide +kernel)⟩
theorem lw_p77 : lw_okq (⟨"ThreadChartsModel", "isNew", "()Z"⟩, 59) := ⟨⟨by decide +kernel, by decide +kernel⟩, List.mem_of_getElem? (i := 888) (by decide +kernel), List.mem_of_getElem? (i := 1108) (by decide +kernel), List.mem_of_getElem? (i := 1109) (by decide +kernel)⟩
theorem lw_p78 : lw_okq (⟨"ThreadChartsModel", "part", "()Z"⟩, 59) := ⟨⟨by decide +kernel, by decide +kernel⟩, List.mem_of_getElem? (i := 888) (by decide +kernel), List.mem_of_getElem? (i := 1112) (by decide +kernel), List.mem_of_getElem? (i := 1113) (by decide +kernel)⟩
theorem lw_p79 : lw_okq (⟨"ThreadChartsModel", "isTerm", "(II)Z"⟩, 59) := ⟨⟨by decide +kernel, by decide +kernel⟩, List.mem_of_getElem? (i := 888) (by decide +kernel), List.mem_of_getElem? (i := 1127) (by decide +kernel), List.mem_of_getElem? (i := 1128) (by decide +kernel)⟩
def lw_privs_5 : List (MethodName × Nat) := [(⟨"ThreadCharts$HeapSearch", "startOver", "()V"⟩, 9), (⟨"ThreadCharts$HeapSearch", "add", "(LThreadCharts$Chart;IZ)V"⟩, 9), (⟨"ThreadCharts$HeapSearch", "look", "(I)Z"⟩, 9), (⟨"ThreadCharts$HeapSearch", "findCandidates", "()Z"⟩, 9), (⟨"ThreadCharts$HeapSearch", "weighBadOnes", "(I)Z"⟩, 9), (⟨"ThreadCharts$HeapSearch", "bitOf", "(I)I"⟩, 9), (⟨"ThreadCharts$HeapSearch", "hitsAllBadOnes", "(I)Z"⟩, 9), (⟨"ThreadCharts$HeapSearch", "suspectOfFirst", "(I)I"⟩, 9), (⟨"ThreadChartsModel", "reads", "()I"⟩, 59), (⟨"ThreadChartsModel", "next", "()V"⟩, 59), (⟨"ThreadChartsModel", "whole", "()Z"⟩, 59), (⟨"ThreadChartsModel", "form", "(I)Z"⟩, 59), (⟨"ThreadChartsModel", "isSign", "(I)Z"⟩, 59), (⟨"ThreadChartsModel", "isNew", "()Z"⟩, 59), (⟨"ThreadChartsModel", "part", "()Z"⟩, 59), (⟨"ThreadChartsModel", "isTerm", "(II)Z"⟩, 59)]
theorem lw_r5 : ∀ q ∈ lw_privs_5, lw_okq q := List.forall_mem_cons.mpr ⟨lw_p64, List.forall_mem_cons.mpr ⟨lw_p65, List.forall_mem_cons.mpr ⟨lw_p66, List.forall_mem_cons.mpr ⟨lw_p67, List.forall_mem_cons.mpr ⟨lw_p68, List.forall_mem_cons.mpr ⟨lw_p69, List.forall_mem_cons.mpr ⟨lw_p70, List.forall_mem_cons.mpr ⟨lw_p71, List.forall_mem_cons.mpr ⟨lw_p72, List.forall_mem_cons.mpr ⟨lw_p73, List.forall_mem_cons.mpr ⟨lw_p74, List.forall_mem_cons.mpr ⟨lw_p75, List.forall_mem_cons.mpr ⟨lw_p76, List.forall_mem_cons.mpr ⟨lw_p77, List.forall_mem_cons.mpr ⟨lw_p78, List.forall_mem_cons.mpr ⟨lw_p79, fun _ h => absurd h List.not_mem_nil⟩⟩⟩⟩⟩⟩⟩⟩⟩⟩⟩⟩⟩⟩⟩⟩
theorem lw_p80 : lw_okq (⟨"ThreadChartsModel", "valueOf", "(III)I"⟩, 59) := ⟨⟨by decide +kernel, by decide +kernel⟩, List.mem_of_getElem? (i := 888) (by decide +kernel), List.mem_of_getElem? (i := 1149) (by decide +kernel), List.mem_of_getElem? (i := 1150) (by decide +kernel)⟩
theorem lw_p81 : lw_okq (⟨"ThreadChartsModel", "isChart", "(I)Z"⟩, 59) := ⟨⟨by decide +kernel, by decide +kernel⟩, List.mem_of_getElem? (i := 888) (by decide +kernel), List.mem_of_getElem? (i := 1166) (by decide +kernel), List.mem_of_getElem? (i := 1167) (by decide +kernel)⟩
theorem lw_p82 : lw_okq (⟨"ThreadChartsModel", "back", "(IJ)J"⟩, 59) := ⟨⟨by decide +kernel, by decide +kernel⟩, List.mem_of_getElem? (i := 888) (by decide +kernel), List.mem_of_getElem? (i := 1183) (by decide +kernel), List.mem_of_getElem? (i := 1184) (by decide +kernel)⟩
theorem lw_p83 : lw_okq (⟨"ThreadChartsModel", "swells", "(IJ)J"⟩, 59) := ⟨⟨by decide +kernel, by decide +kernel⟩, List.mem_of_getElem? (i := 888) (by decide +kernel), List.mem_of_getElem? (i := 1189) (by decide +kernel), List.mem_of_getElem? (i := 1190) (by decide +kernel)⟩
theorem lw_p84 : lw_okq (⟨"ThreadChartsModel", "takes", "([II)V"⟩, 59) := ⟨⟨by decide +kernel, by decide +kernel⟩, List.mem_of_getElem? (i := 888) (by decide +kernel), List.mem_of_getElem? (i := 1200) (by decide +kernel), List.mem_of_getElem? (i := 1201) (by decide +kernel)⟩
theorem lw_p85 : lw_okq (⟨"ThreadChartsModel", "goes", "(II)J"⟩, 59) := ⟨⟨by decide +kernel, by decide +kernel⟩, List.mem_of_getElem? (i := 888) (by decide +kernel), List.mem_of_getElem? (i := 1204) (by decide +kernel), List.mem_of_getElem? (i := 1205) (by decide +kernel)⟩
theorem lw_p86 : lw_okq (⟨"ThreadChartsModel", "numberOf", "(IIII)I"⟩, 59) := ⟨⟨by decide +kernel, by decide +kernel⟩, List.mem_of_getElem? (i := 888) (by decide +kernel), List.mem_of_getElem? (i := 1208) (by decide +kernel), List.mem_of_getElem? (i := 1209) (by decide +kernel)⟩
theorem lw_p87 : lw_okq (⟨"ThreadChartsModel", "pagesOf", "(I)I"⟩, 59) := ⟨⟨by decide +kernel, by decide +kernel⟩, List.mem_of_getElem? (i := 888) (by decide +kernel), List.mem_of_getElem? (i := 1212) (by decide +kernel), List.mem_of_getElem? (i := 1213) (by decide +kernel)⟩
theorem lw_p88 : lw_okq (⟨"ThreadChartsModel", "mid", "(II)I"⟩, 59) := ⟨⟨by decide +kernel, by decide +kernel⟩, List.mem_of_getElem? (i := 888) (by decide +kernel), List.mem_of_getElem? (i := 1216) (by decide +kernel), List.mem_of_getElem? (i := 1217) (by decide +kernel)⟩
theorem lw_p89 : lw_okq (⟨"ThreadChartsModel", "sumAt", "(IIJ)J"⟩, 59) := ⟨⟨by decide +kernel, by decide +kernel⟩, List.mem_of_getElem? (i := 888) (by decide +kernel), List.mem_of_getElem? (i := 1220) (by decide +kernel), List.mem_of_getElem? (i := 1221) (by decide +kernel)⟩
theorem lw_p90 : lw_okq (⟨"ThreadChartsModel", "tenths", "(IJ)I"⟩, 59) := ⟨⟨by decide +kernel, by decide +kernel⟩, List.mem_of_getElem? (i := 888) (by decide +kernel), List.mem_of_getElem? (i := 1224) (by decide +kernel), List.mem_of_getElem? (i := 1225) (by decide +kernel)⟩
theorem lw_p91 : lw_okq (⟨"ThreadChartsModel", "spans", "(II)V"⟩, 59) := ⟨⟨by decide +kernel, by decide +kernel⟩, List.mem_of_getElem? (i := 888) (by decide +kernel), List.mem_of_getElem? (i := 1237) (by decide +kernel), List.mem_of_getElem? (i := 1238) (by decide +kernel)⟩
theorem lw_p92 : lw_okq (⟨"ThreadChartsModel", "signed", "(III)J"⟩, 59) := ⟨⟨by decide +kernel, by decide +kernel⟩, List.mem_of_getElem? (i := 888) (by decide +kernel), List.mem_of_getElem? (i := 1241) (by decide +kernel), List.mem_of_getElem? (i := 1242) (by decide +kernel)⟩
theorem lw_p93 : lw_okq (⟨"ThreadChartsModel", "widest", "(II)J"⟩, 59) := ⟨⟨by decide +kernel, by decide +kernel⟩, List.mem_of_getElem? (i := 888) (by decide +kernel), List.mem_of_getElem? (i := 1249) (by decide +kernel), List.mem_of_getElem? (i := 1250) (by decide +kernel)⟩
theorem lw_p94 : lw_okq (⟨"ThreadChartsModel", "tall", "(IIJJ)J"⟩, 59) := ⟨⟨by decide +kernel, by decide +kernel⟩, List.mem_of_getElem? (i := 888) (by decide +kernel), List.mem_of_getElem? (i := 1257) (by decide +kernel), List.mem_of_getElem? (i := 1258) (by decide +kernel)⟩
theorem lw_p95 : lw_okq (⟨"ThreadChartsModel", "holds", "(J)V"⟩, 59) := ⟨⟨by decide +kernel, by decide +kernel⟩, List.mem_of_getElem? (i := 888) (by decide +kernel), List.mem_of_getElem? (i := 1263) (by decide +kernel), List.mem_of_getElem? (i := 1264) (by decide +kernel)⟩
def lw_privs_6 : List (MethodName × Nat) := [(⟨"ThreadChartsModel", "valueOf", "(III)I"⟩, 59), (⟨"ThreadChartsModel", "isChart", "(I)Z"⟩, 59), (⟨"ThreadChartsModel", "back", "(IJ)J"⟩, 59), (⟨"ThreadChartsModel", "swells", "(IJ)J"⟩, 59), (⟨"ThreadChartsModel", "takes", "([II)V"⟩, 59), (⟨"ThreadChartsModel", "goes", "(II)J"⟩, 59), (⟨"ThreadChartsModel", "numberOf", "(IIII)I"⟩, 59), (⟨"ThreadChartsModel", "pagesOf", "(I)I"⟩, 59), (⟨"ThreadChartsModel", "mid", "(II)I"⟩, 59), (⟨"ThreadChartsModel", "sumAt", "(IIJ)J"⟩, 59), (⟨"ThreadChartsModel", "tenths", "(IJ)I"⟩, 59), (⟨"ThreadChartsModel", "spans", "(II)V"⟩, 59), (⟨"ThreadChartsModel", "signed", "(III)J"⟩, 59), (⟨"ThreadChartsModel", "widest", "(II)J"⟩, 59), (⟨"ThreadChartsModel", "tall", "(IIJJ)J"⟩, 59), (⟨"ThreadChartsModel", "holds", "(J)V"⟩, 59)]
theorem lw_r6 : ∀ q ∈ lw_privs_6, lw_okq q := List.forall_mem_cons.mpr ⟨lw_p80, List.forall_mem_cons.mpr ⟨lw_p81, List.forall_mem_cons.mpr ⟨lw_p82, List.forall_mem_cons.mpr ⟨lw_p83, List.forall_mem_cons.mpr ⟨lw_p84, List.forall_mem_cons.mpr ⟨lw_p85, List.forall_mem_cons.mpr ⟨lw_p86, List.forall_mem_cons.mpr ⟨lw_p87, List.forall_mem_cons.mpr ⟨lw_p88, List.forall_mem_cons.mpr ⟨lw_p89, List.forall_mem_cons.mpr ⟨lw_p90, List.forall_mem_cons.mpr ⟨lw_p91, List.forall_mem_cons.mpr ⟨lw_p92, List.forall_mem_cons.mpr ⟨lw_p93, List.forall_mem_cons.mpr ⟨lw_p94, List.forall_mem_cons.mpr ⟨lw_p95, fun _ h => absurd h List.not_mem_nil⟩⟩⟩⟩⟩⟩⟩⟩⟩⟩⟩⟩⟩⟩⟩⟩
theorem lw_p96 : lw_okq (⟨"ThreadChartsModel", "habitOf", "(I)I"⟩, 59) := ⟨⟨by decide +kernel, by decide +kernel⟩, List.mem_of_getElem? (i := 888) (by decide +kernel), List.mem_of_getElem? (i := 1300) (by decide +kernel), List.mem_of_getElem? (i := 1301) (by decide +kernel)⟩
theorem lw_p97 : lw_okq (⟨"ThreadChartsModel", "dueOf", "(I)I"⟩, 59) := ⟨⟨by decide +kernel, by decide +kernel⟩, List.mem_of_getElem? (i := 888) (by decide +kernel), List.mem_of_getElem? (i := 1304) (by decide +kernel), List.mem_of_getElem? (i := 1305) (by decide +kernel)⟩
theorem lw_p98 : lw_okq (⟨"ThreadChartsModel", "stands", "(II)I"⟩, 59) := ⟨⟨by decide +kernel, by decide +kernel⟩, List.mem_of_getElem? (i := 888) (by decide +kernel), List.mem_of_getElem? (i := 1313) (by decide +kernel), List.mem_of_getElem? (i := 1314) (by decide +kernel)⟩
theorem lw_p99 : lw_okq (⟨"ThreadChartsModel", "finds", "(II)Z"⟩, 59) := ⟨⟨by decide +kernel, by decide +kernel⟩, List.mem_of_getElem? (i := 888) (by decide +kernel), List.mem_of_getElem? (i := 1321) (by decide +kernel), List.mem_of_getElem? (i := 1322) (by decide +kernel)⟩
theorem lw_p100 : lw_okq (⟨"ThreadChartsModel", "has", "(II)Z"⟩, 59) := ⟨⟨by decide +kernel, by decide +kernel⟩, List.mem_of_getElem? (i := 888) (by decide +kernel), List.mem_of_getElem? (i := 1325) (by decide +kernel), List.mem_of_getElem? (i := 1326) (by decide +kernel)⟩
theorem lw_p101 : lw_okq (⟨"ThreadChartsModel", "explains", "(I)Z"⟩, 59) := ⟨⟨by decide +kernel, by decide +kernel⟩, List.mem_of_getElem? (i := 888) (by decide +kernel), List.mem_of_getElem? (i := 1332) (by decide +kernel), List.mem_of_getElem? (i := 1333) (by decide +kernel)⟩
def lw_privs_7 : List (MethodName × Nat) := [(⟨"ThreadChartsModel", "habitOf", "(I)I"⟩, 59), (⟨"ThreadChartsModel", "dueOf", "(I)I"⟩, 59), (⟨"ThreadChartsModel", "stands", "(II)I"⟩, 59), (⟨"ThreadChartsModel", "finds", "(II)Z"⟩, 59), (⟨"ThreadChartsModel", "has", "(II)Z"⟩, 59), (⟨"ThreadChartsModel", "explains", "(I)Z"⟩, 59)]
theorem lw_r7 : ∀ q ∈ lw_privs_7, lw_okq q := List.forall_mem_cons.mpr ⟨lw_p96, List.forall_mem_cons.mpr ⟨lw_p97, List.forall_mem_cons.mpr ⟨lw_p98, List.forall_mem_cons.mpr ⟨lw_p99, List.forall_mem_cons.mpr ⟨lw_p100, List.forall_mem_cons.mpr ⟨lw_p101, fun _ h => absurd h List.not_mem_nil⟩⟩⟩⟩⟩⟩
def lw_privs : List (MethodName × Nat) := lw_privs_1 ++ (lw_privs_2 ++ (lw_privs_3 ++ (lw_privs_4 ++ (lw_privs_5 ++ (lw_privs_6 ++ (lw_privs_7))))))
def lw_tbl : List Cond := k2_sels lw_privs ++ tables_1
theorem lw_privs_ok : ∀ q ∈ lw_privs, lw_okq q := by
  show ∀ q ∈ lw_privs_1 ++ (lw_privs_2 ++ (lw_privs_3 ++ (lw_privs_4 ++ (lw_privs_5 ++ (lw_privs_6 ++ (lw_privs_7)))))), lw_okq q
  exact List.forall_mem_append.mpr ⟨lw_r1, List.forall_mem_append.mpr ⟨lw_r2, List.forall_mem_append.mpr ⟨lw_r3, List.forall_mem_append.mpr ⟨lw_r4, List.forall_mem_append.mpr ⟨lw_r5, List.forall_mem_append.mpr ⟨lw_r6, lw_r7⟩⟩⟩⟩⟩⟩
def RX0 : String := "ThreadCharts$Chart"
def TX0 : u_T := fun k => match k with
  | 0 => ("ThreadCharts$Chart", "rule", "LThreadCharts$Rule;", true)
  | 1 => ("ThreadCharts$Chart", "number", "I", true)
  | 2 => ("ThreadCharts$Chart", "size", "I", true)
  | 3 => ("ThreadCharts$Chart", "pages", "I", true)
  | 4 => ("ThreadCharts$Chart", "wide", "I", true)
  | 5 => ("ThreadCharts$Chart", "order", "[I", true)
  | 6 => ("ThreadCharts$Chart", "left", "[I", true)
  | 7 => ("ThreadCharts$Chart", "right", "[I", true)
  | 8 => ("ThreadCharts$Chart", "leastAhead", "[J", true)
  | 9 => ("ThreadCharts$Chart", "greatestAhead", "[J", true)
  | _ => ("ThreadCharts$Chart", "paper", "LThreadCharts$Paper;", true)
def tyX0 : Nat → FieldType := fun k => match k with
  | 0 => .object "ThreadCharts$Rule"
  | 1 => .int
  | 2 => .int
  | 3 => .int
  | 4 => .int
  | 5 => .array .int
  | 6 => .array .int
  | 7 => .array .int
  | 8 => .array .long
  | 9 => .array .long
  | _ => .object "ThreadCharts$Paper"
abbrev wsX00 : List Cond := u_ws RX0 TX0 11
theorem nmX0 : ∀ a, a < 11 → ∀ b, b < 11 → a ≠ b → (TX0 a).2.1 ≠ (TX0 b).2.1 := by decide +kernel
theorem tyX0_ok : ∀ k, k < 11 → parseFieldDescriptor (TX0 k).2.2.1 = some (tyX0 k) := by decide +kernel
abbrev cX0_init : ByteArray := prog_2_method_1_code
def yX0_init : MethodName := ⟨RX0, "<init>", "(LThreadCharts$Rule;II)V"⟩
abbrev cX0_putOrder : ByteArray := prog_2_method_2_code
def yX0_putOrder : MethodName := ⟨RX0, "putOrder", "(I)V"⟩
abbrev cX0_putModuli : ByteArray := prog_2_method_3_code
def yX0_putModuli : MethodName := ⟨RX0, "putModuli", "(II)V"⟩
abbrev cX0_hasPage : ByteArray := prog_2_method_4_code
def yX0_hasPage : MethodName := ⟨RX0, "hasPage", "(I)Z"⟩
abbrev cX0_hasMarks : ByteArray := prog_2_method_5_code
def yX0_hasMarks : MethodName := ⟨RX0, "hasMarks", "(I)Z"⟩
abbrev cX0_markAt : ByteArray := prog_2_method_6_code
def yX0_markAt : MethodName := ⟨RX0, "markAt", "(II)I"⟩
abbrev cX0_midOf : ByteArray := prog_2_method_7_code
def yX0_midOf : MethodName := ⟨RX0, "midOf", "(I)J"⟩
abbrev cX0_meets : ByteArray := prog_2_method_8_code
def yX0_meets : MethodName := ⟨RX0, "meets", "(IJJ)J"⟩
abbrev cX0_sumAt : ByteArray := prog_2_method_9_code
def yX0_sumAt : MethodName := ⟨RX0, "sumAt", "(IJ)J"⟩
abbrev cX0_lastSumOnFlat : ByteArray := prog_2_method_10_code
def yX0_lastSumOnFlat : MethodName := ⟨RX0, "lastSumOnFlat", "([JI)J"⟩
abbrev cX0_tallWith : ByteArray := prog_2_method_11_code
def yX0_tallWith : MethodName := ⟨RX0, "tallWith", "(III)J"⟩
abbrev cX0_middleOf : ByteArray := prog_2_method_12_code
def yX0_middleOf : MethodName := ⟨RX0, "middleOf", "(JJJ)J"⟩
abbrev cX0_finestOf : ByteArray := prog_2_method_13_code
def yX0_finestOf : MethodName := ⟨RX0, "finestOf", "(II[II)I"⟩
abbrev cX0_isFiner : ByteArray := prog_2_method_14_code
def yX0_isFiner : MethodName := ⟨RX0, "isFiner", "(IIII)Z"⟩
def RX1 : String := "ThreadCharts$Errata"
def TX1 : u_T := fun k => match k with
  | 0 => ("ThreadCharts$Errata", "charts", "[I", true)
  | 1 => ("ThreadCharts$Errata", "terms", "[I", true)
  | 2 => ("ThreadCharts$Errata", "marks", "[I", true)
  | 3 => ("ThreadCharts$Errata", "numbers", "[I", true)
  | 4 => ("ThreadCharts$Errata", "days", "[I", true)
  | _ => ("ThreadCharts$Errata", "count", "I", false)
def tyX1 : Nat → FieldType := fun k => match k with
  | 0 => .array .int
  | 1 => .array .int
  | 2 => .array .int
  | 3 => .array .int
  | 4 => .array .int
  | _ => .int
abbrev wsX10 : List Cond := u_ws RX1 TX1 6
theorem nmX1 : ∀ a, a < 6 → ∀ b, b < 6 → a ≠ b → (TX1 a).2.1 ≠ (TX1 b).2.1 := by decide +kernel
theorem tyX1_ok : ∀ k, k < 6 → parseFieldDescriptor (TX1 k).2.2.1 = some (tyX1 k) := by decide +kernel
abbrev cX1_init : ByteArray := prog_3_method_1_code
def yX1_init : MethodName := ⟨RX1, "<init>", "()V"⟩
abbrev cX1_isFull : ByteArray := prog_3_method_2_code
def yX1_isFull : MethodName := ⟨RX1, "isFull", "()Z"⟩
abbrev cX1_add : ByteArray := prog_3_method_3_code
def yX1_add : MethodName := ⟨RX1, "add", "(IIIII)V"⟩
abbrev cX1_numberOn : ByteArray := prog_3_method_4_code
def yX1_numberOn : MethodName := ⟨RX1, "numberOn", "(IIII)I"⟩
def RX2 : String := "ThreadCharts$HeapSearch"
def TX2 : u_T := fun k => match k with
  | 0 => ("ThreadCharts$HeapSearch", "seen", "[I", true)
  | 1 => ("ThreadCharts$HeapSearch", "badMarks", "[I", true)
  | 2 => ("ThreadCharts$HeapSearch", "badHeaps", "[I", true)
  | 3 => ("ThreadCharts$HeapSearch", "candidates", "[I", true)
  | 4 => ("ThreadCharts$HeapSearch", "badCount", "I", false)
  | 5 => ("ThreadCharts$HeapSearch", "candidateCount", "I", false)
  | 6 => ("ThreadCharts$HeapSearch", "fewest", "I", false)
  | 7 => ("ThreadCharts$HeapSearch", "ways", "I", false)
  | _ => ("ThreadCharts$HeapSearch", "firstHeap", "I", false)
def tyX2 : Nat → FieldType := fun k => match k with
  | 0 => .array .int
  | 1 => .array .int
  | 2 => .array .int
  | 3 => .array .int
  | 4 => .int
  | 5 => .int
  | 6 => .int
  | 7 => .int
  | _ => .int
abbrev wsX20 : List Cond := u_ws RX2 TX2 9
theorem nmX2 : ∀ a, a < 9 → ∀ b, b < 9 → a ≠ b → (TX2 a).2.1 ≠ (TX2 b).2.1 := by decide +kernel
theorem tyX2_ok : ∀ k, k < 9 → parseFieldDescriptor (TX2 k).2.2.1 = some (tyX2 k) := by decide +kernel
abbrev cX2_init : ByteArray := prog_4_method_1_code
def yX2_init : MethodName := ⟨RX2, "<init>", "()V"⟩
abbrev cX2_startOver : ByteArray := prog_4_method_2_code
def yX2_startOver : MethodName := ⟨RX2, "startOver", "()V"⟩
abbrev cX2_add : ByteArray := prog_4_method_3_code
def yX2_add : MethodName := ⟨RX2, "add", "(LThreadCharts$Chart;IZ)V"⟩
abbrev cX2_look : ByteArray := prog_4_method_4_code
def yX2_look : MethodName := ⟨RX2, "look", "(I)Z"⟩
abbrev cX2_findCandidates : ByteArray := prog_4_method_5_code
def yX2_findCandidates : MethodName := ⟨RX2, "findCandidates", "()Z"⟩
abbrev cX2_weighBadOnes : ByteArray := prog_4_method_6_code
def yX2_weighBadOnes : MethodName := ⟨RX2, "weighBadOnes", "(I)Z"⟩
abbrev cX2_bitOf : ByteArray := prog_4_method_7_code
def yX2_bitOf : MethodName := ⟨RX2, "bitOf", "(I)I"⟩
abbrev cX2_hitsAllBadOnes : ByteArray := prog_4_method_8_code
def yX2_hitsAllBadOnes : MethodName := ⟨RX2, "hitsAllBadOnes", "(I)Z"⟩
abbrev cX2_suspectOfFirst : ByteArray := prog_4_method_9_code
def yX2_suspectOfFirst : MethodName := ⟨RX2, "suspectOfFirst", "(I)I"⟩
def RX3 : String := "ThreadCharts$OrderSearch"
def TX3 : u_T := fun k => match k with
  | 0 => ("ThreadCharts$OrderSearch", "tried", "[I", true)
  | 1 => ("ThreadCharts$OrderSearch", "numbers", "[J", true)
  | 2 => ("ThreadCharts$OrderSearch", "bestOrder", "I", false)
  | _ => ("ThreadCharts$OrderSearch", "bestWidth", "J", false)
def tyX3 : Nat → FieldType := fun k => match k with
  | 0 => .array .int
  | 1 => .array .long
  | 2 => .int
  | _ => .long
abbrev wsX30 : List Cond := u_ws RX3 TX3 4
theorem nmX3 : ∀ a, a < 4 → ∀ b, b < 4 → a ≠ b → (TX3 a).2.1 ≠ (TX3 b).2.1 := by decide +kernel
theorem tyX3_ok : ∀ k, k < 4 → parseFieldDescriptor (TX3 k).2.2.1 = some (tyX3 k) := by decide +kernel
abbrev cX3_init : ByteArray := prog_5_method_1_code
def yX3_init : MethodName := ⟨RX3, "<init>", "()V"⟩
abbrev cX3_look : ByteArray := prog_5_method_2_code
def yX3_look : MethodName := ⟨RX3, "look", "(LThreadCharts$Chart;I)V"⟩
abbrev cX3_greatestWidth : ByteArray := prog_5_method_3_code
def yX3_greatestWidth : MethodName := ⟨RX3, "greatestWidth", "(LThreadCharts$Chart;I)J"⟩
abbrev cX3_digitsOfTried : ByteArray := prog_5_method_4_code
def yX3_digitsOfTried : MethodName := ⟨RX3, "digitsOfTried", "(I)I"⟩
abbrev cX3_goToNext : ByteArray := prog_5_method_5_code
def yX3_goToNext : MethodName := ⟨RX3, "goToNext", "(I)Z"⟩
abbrev cX3_swap : ByteArray := prog_5_method_6_code
def yX3_swap : MethodName := ⟨RX3, "swap", "(II)V"⟩
def RX4 : String := "ThreadCharts$Paper"
def TX4 : u_T := fun k => match k with
  | 0 => ("ThreadCharts$Paper", "seam", "I", false)
  | 1 => ("ThreadCharts$Paper", "low", "I", false)
  | _ => ("ThreadCharts$Paper", "up", "I", false)
def tyX4 : Nat → FieldType := fun k => match k with
  | 0 => .int
  | 1 => .int
  | _ => .int
abbrev wsX40 : List Cond := u_ws RX4 TX4 3
theorem nmX4 : ∀ a, a < 3 → ∀ b, b < 3 → a ≠ b → (TX4 a).2.1 ≠ (TX4 b).2.1 := by decide +kernel
theorem tyX4_ok : ∀ k, k < 3 → parseFieldDescriptor (TX4 k).2.2.1 = some (tyX4 k) := by decide +kernel
abbrev cX4_init : ByteArray := prog_6_method_1_code
def yX4_init : MethodName := ⟨RX4, "<init>", "()V"⟩
abbrev cX4_put : ByteArray := prog_6_method_2_code
def yX4_put : MethodName := ⟨RX4, "put", "(III)V"⟩
abbrev cX4_lies : ByteArray := prog_6_method_3_code
def yX4_lies : MethodName := ⟨RX4, "lies", "(J)J"⟩
abbrev cX4_placeReadAt : ByteArray := prog_6_method_4_code
def yX4_placeReadAt : MethodName := ⟨RX4, "placeReadAt", "(J)J"⟩
def RX5 : String := "ThreadCharts$Parser"
def TX5 : u_T := fun k => match k with
  | 0 => ("ThreadCharts$Parser", "kinds", "[I", true)
  | 1 => ("ThreadCharts$Parser", "signs", "[I", true)
  | 2 => ("ThreadCharts$Parser", "terms", "I", false)
  | 3 => ("ThreadCharts$Parser", "constant", "I", false)
  | 4 => ("ThreadCharts$Parser", "state", "I", false)
  | 5 => ("ThreadCharts$Parser", "sign", "I", false)
  | 6 => ("ThreadCharts$Parser", "letter", "I", false)
  | _ => ("ThreadCharts$Parser", "lettersSeen", "I", false)
def tyX5 : Nat → FieldType := fun k => match k with
  | 0 => .array .int
  | 1 => .array .int
  | 2 => .int
  | 3 => .int
  | 4 => .int
  | 5 => .int
  | 6 => .int
  | _ => .int
abbrev wsX50 : List Cond := u_ws RX5 TX5 8
theorem nmX5 : ∀ a, a < 8 → ∀ b, b < 8 → a ≠ b → (TX5 a).2.1 ≠ (TX5 b).2.1 := by decide +kernel
theorem tyX5_ok : ∀ k, k < 8 → parseFieldDescriptor (TX5 k).2.2.1 = some (tyX5 k) := by decide +kernel
abbrev cX5_init : ByteArray := prog_7_method_1_code
def yX5_init : MethodName := ⟨RX5, "<init>", "()V"⟩
abbrev cX5_faultOf : ByteArray := prog_7_method_2_code
def yX5_faultOf : MethodName := ⟨RX5, "faultOf", "(LThreadCharts$Text;)I"⟩
abbrev cX5_startOver : ByteArray := prog_7_method_3_code
def yX5_startOver : MethodName := ⟨RX5, "startOver", "()V"⟩
abbrev cX5_takeNumber : ByteArray := prog_7_method_4_code
def yX5_takeNumber : MethodName := ⟨RX5, "takeNumber", "(I)V"⟩
abbrev cX5_takes : ByteArray := prog_7_method_5_code
def yX5_takes : MethodName := ⟨RX5, "takes", "(I)Z"⟩
abbrev cX5_goesOn : ByteArray := prog_7_method_6_code
def yX5_goesOn : MethodName := ⟨RX5, "goesOn", "(II)Z"⟩
abbrev cX5_beginsForm : ByteArray := prog_7_method_7_code
def yX5_beginsForm : MethodName := ⟨RX5, "beginsForm", "(I)Z"⟩
abbrev cX5_takesLetter : ByteArray := prog_7_method_8_code
def yX5_takesLetter : MethodName := ⟨RX5, "takesLetter", "(III)Z"⟩
abbrev cX5_squares : ByteArray := prog_7_method_9_code
def yX5_squares : MethodName := ⟨RX5, "squares", "(I)Z"⟩
abbrev cX5_followsPart : ByteArray := prog_7_method_10_code
def yX5_followsPart : MethodName := ⟨RX5, "followsPart", "(I)Z"⟩
def RX6 : String := "ThreadCharts$Reports"
def TX6 : u_T := fun k => match k with
  | 0 => ("ThreadCharts$Reports", "readers", "[I", true)
  | 1 => ("ThreadCharts$Reports", "charts", "[I", true)
  | 2 => ("ThreadCharts$Reports", "marks", "[I", true)
  | 3 => ("ThreadCharts$Reports", "tenths", "[I", true)
  | 4 => ("ThreadCharts$Reports", "days", "[I", true)
  | 5 => ("ThreadCharts$Reports", "dues", "[I", true)
  | 6 => ("ThreadCharts$Reports", "tally", "[I", true)
  | 7 => ("ThreadCharts$Reports", "count", "I", false)
  | _ => ("ThreadCharts$Reports", "duesKnown", "I", false)
def tyX6 : Nat → FieldType := fun k => match k with
  | 0 => .array .int
  | 1 => .array .int
  | 2 => .array .int
  | 3 => .array .int
  | 4 => .array .int
  | 5 => .array .int
  | 6 => .array .int
  | 7 => .int
  | _ => .int
abbrev wsX60 : List Cond := u_ws RX6 TX6 9
theorem nmX6 : ∀ a, a < 9 → ∀ b, b < 9 → a ≠ b → (TX6 a).2.1 ≠ (TX6 b).2.1 := by decide +kernel
theorem tyX6_ok : ∀ k, k < 9 → parseFieldDescriptor (TX6 k).2.2.1 = some (tyX6 k) := by decide +kernel
abbrev cX6_init : ByteArray := prog_8_method_1_code
def yX6_init : MethodName := ⟨RX6, "<init>", "()V"⟩
abbrev cX6_isFull : ByteArray := prog_8_method_2_code
def yX6_isFull : MethodName := ⟨RX6, "isFull", "()Z"⟩
abbrev cX6_has : ByteArray := prog_8_method_3_code
def yX6_has : MethodName := ⟨RX6, "has", "(I)Z"⟩
abbrev cX6_forgetDues : ByteArray := prog_8_method_4_code
def yX6_forgetDues : MethodName := ⟨RX6, "forgetDues", "()V"⟩
abbrev cX6_add : ByteArray := prog_8_method_5_code
def yX6_add : MethodName := ⟨RX6, "add", "(IIIII)V"⟩
abbrev cX6_habitOf : ByteArray := prog_8_method_6_code
def yX6_habitOf : MethodName := ⟨RX6, "habitOf", "(I)I"⟩
abbrev cX6_isBad : ByteArray := prog_8_method_7_code
def yX6_isBad : MethodName := ⟨RX6, "isBad", "(II)Z"⟩
def RX7 : String := "ThreadCharts$Rule"
def TX7 : u_T := fun k => match k with
  | 0 => ("ThreadCharts$Rule", "terms", "I", true)
  | 1 => ("ThreadCharts$Rule", "constant", "I", true)
  | 2 => ("ThreadCharts$Rule", "kinds", "[I", true)
  | 3 => ("ThreadCharts$Rule", "signs", "[I", true)
  | 4 => ("ThreadCharts$Rule", "markCounts", "[I", true)
  | 5 => ("ThreadCharts$Rule", "marks", "[[I", true)
  | 6 => ("ThreadCharts$Rule", "scale", "[I", true)
  | _ => ("ThreadCharts$Rule", "scaleCount", "I", false)
def tyX7 : Nat → FieldType := fun k => match k with
  | 0 => .int
  | 1 => .int
  | 2 => .array .int
  | 3 => .array .int
  | 4 => .array .int
  | 5 => .array (.array .int)
  | 6 => .array .int
  | _ => .int
abbrev wsX70 : List Cond := u_ws RX7 TX7 8
theorem nmX7 : ∀ a, a < 8 → ∀ b, b < 8 → a ≠ b → (TX7 a).2.1 ≠ (TX7 b).2.1 := by decide +kernel
theorem tyX7_ok : ∀ k, k < 8 → parseFieldDescriptor (TX7 k).2.2.1 = some (tyX7 k) := by decide +kernel
abbrev cX7_init : ByteArray := prog_9_method_1_code
def yX7_init : MethodName := ⟨RX7, "<init>", "(LThreadCharts$Parser;)V"⟩
abbrev cX7_hasTerm : ByteArray := prog_9_method_2_code
def yX7_hasTerm : MethodName := ⟨RX7, "hasTerm", "(I)Z"⟩
abbrev cX7_kindOf : ByteArray := prog_9_method_3_code
def yX7_kindOf : MethodName := ⟨RX7, "kindOf", "(I)I"⟩
abbrev cX7_signOf : ByteArray := prog_9_method_4_code
def yX7_signOf : MethodName := ⟨RX7, "signOf", "(I)I"⟩
abbrev cX7_canRange : ByteArray := prog_9_method_5_code
def yX7_canRange : MethodName := ⟨RX7, "canRange", "(IIII)Z"⟩
abbrev cX7_putRange : ByteArray := prog_9_method_6_code
def yX7_putRange : MethodName := ⟨RX7, "putRange", "(IIII)V"⟩
abbrev cX7_putOnScale : ByteArray := prog_9_method_7_code
def yX7_putOnScale : MethodName := ⟨RX7, "putOnScale", "(I)V"⟩
abbrev cX7_hasAllRanges : ByteArray := prog_9_method_8_code
def yX7_hasAllRanges : MethodName := ⟨RX7, "hasAllRanges", "()Z"⟩
abbrev cX7_hasMark : ByteArray := prog_9_method_9_code
def yX7_hasMark : MethodName := ⟨RX7, "hasMark", "(II)Z"⟩
abbrev cX7_numberOf : ByteArray := prog_9_method_10_code
def yX7_numberOf : MethodName := ⟨RX7, "numberOf", "(II)I"⟩
abbrev cX7_signedOf : ByteArray := prog_9_method_11_code
def yX7_signedOf : MethodName := ⟨RX7, "signedOf", "(II)I"⟩
abbrev cX7_lastMarkOf : ByteArray := prog_9_method_12_code
def yX7_lastMarkOf : MethodName := ⟨RX7, "lastMarkOf", "(I)I"⟩
abbrev cX7_leastOf : ByteArray := prog_9_method_13_code
def yX7_leastOf : MethodName := ⟨RX7, "leastOf", "(I)I"⟩
abbrev cX7_greatestOf : ByteArray := prog_9_method_14_code
def yX7_greatestOf : MethodName := ⟨RX7, "greatestOf", "(I)I"⟩
abbrev cX7_isOrder : ByteArray := prog_9_method_15_code
def yX7_isOrder : MethodName := ⟨RX7, "isOrder", "(I)Z"⟩
abbrev cX7_tenthsOf : ByteArray := prog_9_method_16_code
def yX7_tenthsOf : MethodName := ⟨RX7, "tenthsOf", "(J)I"⟩
abbrev cX7_numberOfValue : ByteArray := prog_9_method_17_code
def yX7_numberOfValue : MethodName := ⟨RX7, "numberOfValue", "(II)I"⟩
abbrev cX7_leastValue : ByteArray := prog_9_method_18_code
def yX7_leastValue : MethodName := ⟨RX7, "leastValue", "(I)I"⟩
abbrev cX7_greatestValue : ByteArray := prog_9_method_19_code
def yX7_greatestValue : MethodName := ⟨RX7, "greatestValue", "(I)I"⟩
def RX8 : String := "ThreadCharts$Text"
def TX8 : u_T := fun k => match k with
  | 0 => ("ThreadCharts$Text", "bytes", "[B", true)
  | _ => ("ThreadCharts$Text", "length", "I", false)
def tyX8 : Nat → FieldType := fun k => match k with
  | 0 => .array .byte
  | _ => .int
abbrev wsX80 : List Cond := u_ws RX8 TX8 2
theorem nmX8 : ∀ a, a < 2 → ∀ b, b < 2 → a ≠ b → (TX8 a).2.1 ≠ (TX8 b).2.1 := by decide +kernel
theorem tyX8_ok : ∀ k, k < 2 → parseFieldDescriptor (TX8 k).2.2.1 = some (tyX8 k) := by decide +kernel
abbrev cX8_init : ByteArray := prog_10_method_1_code
def yX8_init : MethodName := ⟨RX8, "<init>", "()V"⟩
abbrev cX8_add : ByteArray := prog_10_method_2_code
def yX8_add : MethodName := ⟨RX8, "add", "(I)V"⟩
abbrev cX8_byteAt : ByteArray := prog_10_method_3_code
def yX8_byteAt : MethodName := ⟨RX8, "byteAt", "(I)I"⟩
def RX9 : String := "ThreadCharts$Walk"
def TX9 : u_T := fun k => match k with
  | 0 => ("ThreadCharts$Walk", "left", "J", false)
  | 1 => ("ThreadCharts$Walk", "right", "J", false)
  | 2 => ("ThreadCharts$Walk", "meets", "J", false)
  | _ => ("ThreadCharts$Walk", "sum", "J", false)
def tyX9 : Nat → FieldType := fun k => match k with
  | 0 => .long
  | 1 => .long
  | 2 => .long
  | _ => .long
abbrev wsX90 : List Cond := u_ws RX9 TX9 4
theorem nmX9 : ∀ a, a < 4 → ∀ b, b < 4 → a ≠ b → (TX9 a).2.1 ≠ (TX9 b).2.1 := by decide +kernel
theorem tyX9_ok : ∀ k, k < 4 → parseFieldDescriptor (TX9 k).2.2.1 = some (tyX9 k) := by decide +kernel
abbrev cX9_init : ByteArray := prog_11_method_1_code
def yX9_init : MethodName := ⟨RX9, "<init>", "()V"⟩
abbrev cX9_along : ByteArray := prog_11_method_2_code
def yX9_along : MethodName := ⟨RX9, "along", "(LThreadCharts$Chart;[JI)V"⟩
def RX10 : String := "ThreadCharts"
def TX10 : u_T := fun k => match k with
  | 0 => ("ThreadCharts", "text", "LThreadCharts$Text;", true)
  | 1 => ("ThreadCharts", "parser", "LThreadCharts$Parser;", true)
  | 2 => ("ThreadCharts", "rules", "[LThreadCharts$Rule;", true)
  | 3 => ("ThreadCharts", "ruleCount", "I", false)
  | 4 => ("ThreadCharts", "charts", "[LThreadCharts$Chart;", true)
  | 5 => ("ThreadCharts", "chartCount", "I", false)
  | 6 => ("ThreadCharts", "listed", "[I", true)
  | 7 => ("ThreadCharts", "listedCount", "I", false)
  | 8 => ("ThreadCharts", "now", "I", false)
  | 9 => ("ThreadCharts", "readingChart", "LThreadCharts$Chart;", false)
  | 10 => ("ThreadCharts", "readingMarks", "I", false)
  | 11 => ("ThreadCharts", "errata", "LThreadCharts$Errata;", true)
  | 12 => ("ThreadCharts", "reports", "LThreadCharts$Reports;", true)
  | 13 => ("ThreadCharts", "numbers", "[J", true)
  | 14 => ("ThreadCharts", "walk", "LThreadCharts$Walk;", true)
  | 15 => ("ThreadCharts", "orders", "LThreadCharts$OrderSearch;", true)
  | _ => ("ThreadCharts", "heaps", "LThreadCharts$HeapSearch;", true)
def tyX10 : Nat → FieldType := fun k => match k with
  | 0 => .object "ThreadCharts$Text"
  | 1 => .object "ThreadCharts$Parser"
  | 2 => .array (.object "ThreadCharts$Rule")
  | 3 => .int
  | 4 => .array (.object "ThreadCharts$Chart")
  | 5 => .int
  | 6 => .array .int
  | 7 => .int
  | 8 => .int
  | 9 => .object "ThreadCharts$Chart"
  | 10 => .int
  | 11 => .object "ThreadCharts$Errata"
  | 12 => .object "ThreadCharts$Reports"
  | 13 => .array .long
  | 14 => .object "ThreadCharts$Walk"
  | 15 => .object "ThreadCharts$OrderSearch"
  | _ => .object "ThreadCharts$HeapSearch"
abbrev wsX100 : List Cond := u_ws RX10 TX10 17
theorem nmX10 : ∀ a, a < 17 → ∀ b, b < 17 → a ≠ b → (TX10 a).2.1 ≠ (TX10 b).2.1 := by decide +kernel
theorem tyX10_ok : ∀ k, k < 17 → parseFieldDescriptor (TX10 k).2.2.1 = some (tyX10 k) := by decide +kernel
abbrev cX10_init : ByteArray := prog_1_method_1_code
def yX10_init : MethodName := ⟨RX10, "<init>", "()V"⟩
abbrev cX10_feed : ByteArray := prog_1_method_2_code
def yX10_feed : MethodName := ⟨RX10, "feed", "(IIIII)I"⟩
abbrev cX10_end : ByteArray := prog_1_method_3_code
def yX10_end : MethodName := ⟨RX10, "end", "(I)Z"⟩
abbrev cX10_fault : ByteArray := prog_1_method_4_code
def yX10_fault : MethodName := ⟨RX10, "fault", "()I"⟩
abbrev cX10_rule : ByteArray := prog_1_method_5_code
def yX10_rule : MethodName := ⟨RX10, "rule", "()I"⟩
abbrev cX10_told : ByteArray := prog_1_method_6_code
def yX10_told : MethodName := ⟨RX10, "told", "(II)I"⟩
abbrev cX10_range : ByteArray := prog_1_method_7_code
def yX10_range : MethodName := ⟨RX10, "range", "(IIIII)I"⟩
abbrev cX10_mark : ByteArray := prog_1_method_8_code
def yX10_mark : MethodName := ⟨RX10, "mark", "(III)I"⟩
abbrev cX10_chart : ByteArray := prog_1_method_9_code
def yX10_chart : MethodName := ⟨RX10, "chart", "(IIIIII)I"⟩
abbrev cX10_reading : ByteArray := prog_1_method_10_code
def yX10_reading : MethodName := ⟨RX10, "reading", "(II)Z"⟩
abbrev cX10_read : ByteArray := prog_1_method_11_code
def yX10_read : MethodName := ⟨RX10, "read", "(II)I"⟩
abbrev cX10_lead : ByteArray := prog_1_method_12_code
def yX10_lead : MethodName := ⟨RX10, "lead", "(II)I"⟩
abbrev cX10_span : ByteArray := prog_1_method_13_code
def yX10_span : MethodName := ⟨RX10, "span", "(IZ)I"⟩
abbrev cX10_page : ByteArray := prog_1_method_14_code
def yX10_page : MethodName := ⟨RX10, "page", "(III)I"⟩
abbrev cX10_sharpest : ByteArray := prog_1_method_15_code
def yX10_sharpest : MethodName := ⟨RX10, "sharpest", "(III)I"⟩
abbrev cX10_list : ByteArray := prog_1_method_16_code
def yX10_list : MethodName := ⟨RX10, "list", "(I)I"⟩
abbrev cX10_clear : ByteArray := prog_1_method_17_code
def yX10_clear : MethodName := ⟨RX10, "clear", "()I"⟩
abbrev cX10_finest : ByteArray := prog_1_method_18_code
def yX10_finest : MethodName := ⟨RX10, "finest", "(III)I"⟩
abbrev cX10_paper : ByteArray := prog_1_method_19_code
def yX10_paper : MethodName := ⟨RX10, "paper", "(IIII)Z"⟩
abbrev cX10_swelled : ByteArray := prog_1_method_20_code
def yX10_swelled : MethodName := ⟨RX10, "swelled", "(IIZ)I"⟩
abbrev cX10_go : ByteArray := prog_1_method_21_code
def yX10_go : MethodName := ⟨RX10, "go", "(I)I"⟩
abbrev cX10_move : ByteArray := prog_1_method_22_code
def yX10_move : MethodName := ⟨RX10, "move", "(IIII)I"⟩
abbrev cX10_report : ByteArray := prog_1_method_23_code
def yX10_report : MethodName := ⟨RX10, "report", "(II)I"⟩
abbrev cX10_due : ByteArray := prog_1_method_24_code
def yX10_due : MethodName := ⟨RX10, "due", "(III)I"⟩
abbrev cX10_habit : ByteArray := prog_1_method_25_code
def yX10_habit : MethodName := ⟨RX10, "habit", "(I)I"⟩
abbrev cX10_suspects : ByteArray := prog_1_method_26_code
def yX10_suspects : MethodName := ⟨RX10, "suspects", "(III)I"⟩
abbrev cX10_count : ByteArray := prog_1_method_27_code
def yX10_count : MethodName := ⟨RX10, "count", "(I)I"⟩
abbrev cX10_ruleAt : ByteArray := prog_1_method_28_code
def yX10_ruleAt : MethodName := ⟨RX10, "ruleAt", "(I)LThreadCharts$Rule;"⟩
abbrev cX10_chartAt : ByteArray := prog_1_method_29_code
def yX10_chartAt : MethodName := ⟨RX10, "chartAt", "(I)LThreadCharts$Chart;"⟩
abbrev cX10_isListed : ByteArray := prog_1_method_30_code
def yX10_isListed : MethodName := ⟨RX10, "isListed", "(I)Z"⟩
abbrev cX10_layAsKnown : ByteArray := prog_1_method_31_code
def yX10_layAsKnown : MethodName := ⟨RX10, "layAsKnown", "(LThreadCharts$Chart;II)V"⟩
abbrev cX10_layAsCut : ByteArray := prog_1_method_32_code
def yX10_layAsCut : MethodName := ⟨RX10, "layAsCut", "(LThreadCharts$Chart;I)V"⟩
abbrev cX10_readAsKnown : ByteArray := prog_1_method_33_code
def yX10_readAsKnown : MethodName := ⟨RX10, "readAsKnown", "(LThreadCharts$Chart;II)J"⟩
abbrev cX10_exactSum : ByteArray := prog_1_method_34_code
def yX10_exactSum : MethodName := ⟨RX10, "exactSum", "(LThreadCharts$Chart;)I"⟩
abbrev cX10_refreshDues : ByteArray := prog_1_method_35_code
def yX10_refreshDues : MethodName := ⟨RX10, "refreshDues", "()V"⟩
abbrev cX10_sortReports : ByteArray := prog_1_method_36_code
def yX10_sortReports : MethodName := ⟨RX10, "sortReports", "(LThreadCharts$Chart;I)V"⟩
abbrev cX10_areModuli : ByteArray := prog_1_method_37_code
def yX10_areModuli : MethodName := ⟨RX10, "areModuli", "(IZ)Z"⟩
abbrev cX10_isEye : ByteArray := prog_1_method_38_code
def yX10_isEye : MethodName := ⟨RX10, "isEye", "(I)Z"⟩
abbrev cX10_isSwelling : ByteArray := prog_1_method_39_code
def yX10_isSwelling : MethodName := ⟨RX10, "isSwelling", "(I)Z"⟩
abbrev cX10_isReader : ByteArray := prog_1_method_40_code
def yX10_isReader : MethodName := ⟨RX10, "isReader", "(I)Z"⟩
abbrev cX10_isBound : ByteArray := prog_1_method_41_code
def yX10_isBound : MethodName := ⟨RX10, "isBound", "(I)Z"⟩
abbrev cX10_nearest : ByteArray := prog_1_method_42_code
def yX10_nearest : MethodName := ⟨RX10, "nearest", "(JJ)J"⟩
def RX11 : String := "ThreadChartsModel"
def TX11 : u_T := fun k => match k with
  | 0 => ("ThreadChartsModel", "text", "[B", true)
  | 1 => ("ThreadChartsModel", "size", "I", false)
  | 2 => ("ThreadChartsModel", "at", "I", false)
  | 3 => ("ThreadChartsModel", "token", "I", false)
  | 4 => ("ThreadChartsModel", "tokenAt", "I", false)
  | 5 => ("ThreadChartsModel", "tokenValue", "I", false)
  | 6 => ("ThreadChartsModel", "forms", "I", false)
  | 7 => ("ThreadChartsModel", "letters", "[I", true)
  | 8 => ("ThreadChartsModel", "kinds", "[I", true)
  | 9 => ("ThreadChartsModel", "signs", "[I", true)
  | 10 => ("ThreadChartsModel", "constant", "I", false)
  | 11 => ("ThreadChartsModel", "rules", "I", false)
  | 12 => ("ThreadChartsModel", "ruleTerms", "[I", true)
  | 13 => ("ThreadChartsModel", "ruleConstant", "[I", true)
  | 14 => ("ThreadChartsModel", "ruleKind", "[I", true)
  | 15 => ("ThreadChartsModel", "ruleSign", "[I", true)
  | 16 => ("ThreadChartsModel", "many", "[I", true)
  | 17 => ("ThreadChartsModel", "values", "[I", true)
  | 18 => ("ThreadChartsModel", "charts", "I", false)
  | 19 => ("ThreadChartsModel", "chartRule", "[I", true)
  | 20 => ("ThreadChartsModel", "chartOrder", "[I", true)
  | 21 => ("ThreadChartsModel", "wide", "[I", true)
  | 22 => ("ThreadChartsModel", "left", "[I", true)
  | 23 => ("ThreadChartsModel", "right", "[I", true)
  | 24 => ("ThreadChartsModel", "seam", "[I", true)
  | 25 => ("ThreadChartsModel", "low", "[I", true)
  | 26 => ("ThreadChartsModel", "up", "[I", true)
  | 27 => ("ThreadChartsModel", "readChart", "I", false)
  | 28 => ("ThreadChartsModel", "reading", "[I", true)
  | 29 => ("ThreadChartsModel", "now", "I", false)
  | 30 => ("ThreadChartsModel", "moves", "I", false)
  | 31 => ("ThreadChartsModel", "moveChart", "[I", true)
  | 32 => ("ThreadChartsModel", "moveTerm", "[I", true)
  | 33 => ("ThreadChartsModel", "moveMark", "[I", true)
  | 34 => ("ThreadChartsModel", "moveTo", "[I", true)
  | 35 => ("ThreadChartsModel", "moveIn", "[I", true)
  | 36 => ("ThreadChartsModel", "reports", "I", false)
  | 37 => ("ThreadChartsModel", "reportBy", "[I", true)
  | 38 => ("ThreadChartsModel", "reportChart", "[I", true)
  | 39 => ("ThreadChartsModel", "reportMarks", "[I", true)
  | 40 => ("ThreadChartsModel", "reportSays", "[I", true)
  | 41 => ("ThreadChartsModel", "reportIn", "[I", true)
  | 42 => ("ThreadChartsModel", "listed", "I", false)
  | 43 => ("ThreadChartsModel", "list", "[I", true)
  | 44 => ("ThreadChartsModel", "marks", "[I", true)
  | 45 => ("ThreadChartsModel", "pointLeft", "[J", true)
  | 46 => ("ThreadChartsModel", "pointRight", "[J", true)
  | 47 => ("ThreadChartsModel", "meets", "[J", true)
  | 48 => ("ThreadChartsModel", "sums", "[J", true)
  | 49 => ("ThreadChartsModel", "order", "[I", true)
  | 50 => ("ThreadChartsModel", "leastSum", "J", false)
  | 51 => ("ThreadChartsModel", "mostSum", "J", false)
  | 52 => ("ThreadChartsModel", "lowest", "J", false)
  | 53 => ("ThreadChartsModel", "highest", "J", false)
  | 54 => ("ThreadChartsModel", "how", "[I", true)
  | 55 => ("ThreadChartsModel", "doubt", "[I", true)
  | 56 => ("ThreadChartsModel", "doubts", "I", false)
  | 57 => ("ThreadChartsModel", "heap", "I", false)
  | _ => ("ThreadChartsModel", "heapRivals", "I", false)
def tyX11 : Nat → FieldType := fun k => match k with
  | 0 => .array .byte
  | 1 => .int
  | 2 => .int
  | 3 => .int
  | 4 => .int
  | 5 => .int
  | 6 => .int
  | 7 => .array .int
  | 8 => .array .int
  | 9 => .array .int
  | 10 => .int
  | 11 => .int
  | 12 => .array .int
  | 13 => .array .int
  | 14 => .array .int
  | 15 => .array .int
  | 16 => .array .int
  | 17 => .array .int
  | 18 => .int
  | 19 => .array .int
  | 20 => .array .int
  | 21 => .array .int
  | 22 => .array .int
  | 23 => .array .int
  | 24 => .array .int
  | 25 => .array .int
  | 26 => .array .int
  | 27 => .int
  | 28 => .array .int
  | 29 => .int
  | 30 => .int
  | 31 => .array .int
  | 32 => .array .int
  | 33 => .array .int
  | 34 => .array .int
  | 35 => .array .int
  | 36 => .int
  | 37 => .array .int
  | 38 => .array .int
  | 39 => .array .int
  | 40 => .array .int
  | 41 => .array .int
  | 42 => .int
  | 43 => .array .int
  | 44 => .array .int
  | 45 => .array .long
  | 46 => .array .long
  | 47 => .array .long
  | 48 => .array .long
  | 49 => .array .int
  | 50 => .long
  | 51 => .long
  | 52 => .long
  | 53 => .long
  | 54 => .array .int
  | 55 => .array .int
  | 56 => .int
  | 57 => .int
  | _ => .int
abbrev wsX110 : List Cond := u_ws RX11 TX11 59
theorem nmX11 : ∀ a, a < 59 → ∀ b, b < 59 → a ≠ b → (TX11 a).2.1 ≠ (TX11 b).2.1 := by decide +kernel
theorem tyX11_ok : ∀ k, k < 59 → parseFieldDescriptor (TX11 k).2.2.1 = some (tyX11 k) := by decide +kernel
abbrev cX11_init : ByteArray := prog_13_method_1_code
def yX11_init : MethodName := ⟨RX11, "<init>", "()V"⟩
abbrev cX11_in : ByteArray := prog_13_method_2_code
def yX11_in : MethodName := ⟨RX11, "in", "(JJJ)Z"⟩
abbrev cX11_floor : ByteArray := prog_13_method_3_code
def yX11_floor : MethodName := ⟨RX11, "floor", "(JJ)J"⟩
abbrev cX11_nearest : ByteArray := prog_13_method_4_code
def yX11_nearest : MethodName := ⟨RX11, "nearest", "(JJ)J"⟩
abbrev cX11_feed : ByteArray := prog_13_method_5_code
def yX11_feed : MethodName := ⟨RX11, "feed", "(IIIII)I"⟩
abbrev cX11_end : ByteArray := prog_13_method_6_code
def yX11_end : MethodName := ⟨RX11, "end", "(I)Z"⟩
abbrev cX11_next : ByteArray := prog_13_method_7_code
def yX11_next : MethodName := ⟨RX11, "next", "()V"⟩
abbrev cX11_isSign : ByteArray := prog_13_method_8_code
def yX11_isSign : MethodName := ⟨RX11, "isSign", "(I)Z"⟩
abbrev cX11_isNew : ByteArray := prog_13_method_9_code
def yX11_isNew : MethodName := ⟨RX11, "isNew", "()Z"⟩
abbrev cX11_form : ByteArray := prog_13_method_10_code
def yX11_form : MethodName := ⟨RX11, "form", "(I)Z"⟩
abbrev cX11_part : ByteArray := prog_13_method_11_code
def yX11_part : MethodName := ⟨RX11, "part", "()Z"⟩
abbrev cX11_whole : ByteArray := prog_13_method_12_code
def yX11_whole : MethodName := ⟨RX11, "whole", "()Z"⟩
abbrev cX11_reads : ByteArray := prog_13_method_13_code
def yX11_reads : MethodName := ⟨RX11, "reads", "()I"⟩
abbrev cX11_fault : ByteArray := prog_13_method_14_code
def yX11_fault : MethodName := ⟨RX11, "fault", "()I"⟩
abbrev cX11_rule : ByteArray := prog_13_method_15_code
def yX11_rule : MethodName := ⟨RX11, "rule", "()I"⟩
abbrev cX11_isTerm : ByteArray := prog_13_method_16_code
def yX11_isTerm : MethodName := ⟨RX11, "isTerm", "(II)Z"⟩
abbrev cX11_told : ByteArray := prog_13_method_17_code
def yX11_told : MethodName := ⟨RX11, "told", "(II)I"⟩
abbrev cX11_range : ByteArray := prog_13_method_18_code
def yX11_range : MethodName := ⟨RX11, "range", "(IIIII)I"⟩
abbrev cX11_valueOf : ByteArray := prog_13_method_19_code
def yX11_valueOf : MethodName := ⟨RX11, "valueOf", "(III)I"⟩
abbrev cX11_mark : ByteArray := prog_13_method_20_code
def yX11_mark : MethodName := ⟨RX11, "mark", "(III)I"⟩
abbrev cX11_isChart : ByteArray := prog_13_method_21_code
def yX11_isChart : MethodName := ⟨RX11, "isChart", "(I)Z"⟩
abbrev cX11_pagesOf : ByteArray := prog_13_method_22_code
def yX11_pagesOf : MethodName := ⟨RX11, "pagesOf", "(I)I"⟩
abbrev cX11_isModulus : ByteArray := prog_13_method_23_code
def yX11_isModulus : MethodName := ⟨RX11, "isModulus", "(I)Z"⟩
abbrev cX11_chart : ByteArray := prog_13_method_24_code
def yX11_chart : MethodName := ⟨RX11, "chart", "(IIIIII)I"⟩
abbrev cX11_reading : ByteArray := prog_13_method_25_code
def yX11_reading : MethodName := ⟨RX11, "reading", "(II)Z"⟩
abbrev cX11_cut : ByteArray := prog_13_method_26_code
def yX11_cut : MethodName := ⟨RX11, "cut", "(JI)J"⟩
abbrev cX11_swells : ByteArray := prog_13_method_27_code
def yX11_swells : MethodName := ⟨RX11, "swells", "(IJ)J"⟩
abbrev cX11_back : ByteArray := prog_13_method_28_code
def yX11_back : MethodName := ⟨RX11, "back", "(IJ)J"⟩
abbrev cX11_paper : ByteArray := prog_13_method_29_code
def yX11_paper : MethodName := ⟨RX11, "paper", "(IIII)Z"⟩
abbrev cX11_swelled : ByteArray := prog_13_method_30_code
def yX11_swelled : MethodName := ⟨RX11, "swelled", "(IIZ)I"⟩
abbrev cX11_numberOf : ByteArray := prog_13_method_31_code
def yX11_numberOf : MethodName := ⟨RX11, "numberOf", "(IIII)I"⟩
abbrev cX11_mid : ByteArray := prog_13_method_32_code
def yX11_mid : MethodName := ⟨RX11, "mid", "(II)I"⟩
abbrev cX11_sumAt : ByteArray := prog_13_method_33_code
def yX11_sumAt : MethodName := ⟨RX11, "sumAt", "(IIJ)J"⟩
abbrev cX11_goes : ByteArray := prog_13_method_34_code
def yX11_goes : MethodName := ⟨RX11, "goes", "(II)J"⟩
abbrev cX11_takes : ByteArray := prog_13_method_35_code
def yX11_takes : MethodName := ⟨RX11, "takes", "([II)V"⟩
abbrev cX11_tenths : ByteArray := prog_13_method_36_code
def yX11_tenths : MethodName := ⟨RX11, "tenths", "(IJ)I"⟩
abbrev cX11_read : ByteArray := prog_13_method_37_code
def yX11_read : MethodName := ⟨RX11, "read", "(II)I"⟩
abbrev cX11_lead : ByteArray := prog_13_method_38_code
def yX11_lead : MethodName := ⟨RX11, "lead", "(II)I"⟩
abbrev cX11_signed : ByteArray := prog_13_method_39_code
def yX11_signed : MethodName := ⟨RX11, "signed", "(III)J"⟩
abbrev cX11_spans : ByteArray := prog_13_method_40_code
def yX11_spans : MethodName := ⟨RX11, "spans", "(II)V"⟩
abbrev cX11_span : ByteArray := prog_13_method_41_code
def yX11_span : MethodName := ⟨RX11, "span", "(IZ)I"⟩
abbrev cX11_widest : ByteArray := prog_13_method_42_code
def yX11_widest : MethodName := ⟨RX11, "widest", "(II)J"⟩
abbrev cX11_sharpest : ByteArray := prog_13_method_43_code
def yX11_sharpest : MethodName := ⟨RX11, "sharpest", "(III)I"⟩
abbrev cX11_holds : ByteArray := prog_13_method_44_code
def yX11_holds : MethodName := ⟨RX11, "holds", "(J)V"⟩
abbrev cX11_tall : ByteArray := prog_13_method_45_code
def yX11_tall : MethodName := ⟨RX11, "tall", "(IIJJ)J"⟩
abbrev cX11_page : ByteArray := prog_13_method_46_code
def yX11_page : MethodName := ⟨RX11, "page", "(III)I"⟩
abbrev cX11_list : ByteArray := prog_13_method_47_code
def yX11_list : MethodName := ⟨RX11, "list", "(I)I"⟩
abbrev cX11_clear : ByteArray := prog_13_method_48_code
def yX11_clear : MethodName := ⟨RX11, "clear", "()I"⟩
abbrev cX11_finest : ByteArray := prog_13_method_49_code
def yX11_finest : MethodName := ⟨RX11, "finest", "(III)I"⟩
abbrev cX11_go : ByteArray := prog_13_method_50_code
def yX11_go : MethodName := ⟨RX11, "go", "(I)I"⟩
abbrev cX11_move : ByteArray := prog_13_method_51_code
def yX11_move : MethodName := ⟨RX11, "move", "(IIII)I"⟩
abbrev cX11_report : ByteArray := prog_13_method_52_code
def yX11_report : MethodName := ⟨RX11, "report", "(II)I"⟩
abbrev cX11_dueOf : ByteArray := prog_13_method_53_code
def yX11_dueOf : MethodName := ⟨RX11, "dueOf", "(I)I"⟩
abbrev cX11_habitOf : ByteArray := prog_13_method_54_code
def yX11_habitOf : MethodName := ⟨RX11, "habitOf", "(I)I"⟩
abbrev cX11_habit : ByteArray := prog_13_method_55_code
def yX11_habit : MethodName := ⟨RX11, "habit", "(I)I"⟩
abbrev cX11_stands : ByteArray := prog_13_method_56_code
def yX11_stands : MethodName := ⟨RX11, "stands", "(II)I"⟩
abbrev cX11_due : ByteArray := prog_13_method_57_code
def yX11_due : MethodName := ⟨RX11, "due", "(III)I"⟩
abbrev cX11_has : ByteArray := prog_13_method_58_code
def yX11_has : MethodName := ⟨RX11, "has", "(II)Z"⟩
abbrev cX11_bits : ByteArray := prog_13_method_59_code
def yX11_bits : MethodName := ⟨RX11, "bits", "(I)I"⟩
abbrev cX11_finds : ByteArray := prog_13_method_60_code
def yX11_finds : MethodName := ⟨RX11, "finds", "(II)Z"⟩
abbrev cX11_explains : ByteArray := prog_13_method_61_code
def yX11_explains : MethodName := ⟨RX11, "explains", "(I)Z"⟩
abbrev cX11_suspects : ByteArray := prog_13_method_62_code
def yX11_suspects : MethodName := ⟨RX11, "suspects", "(III)I"⟩
abbrev cX11_count : ByteArray := prog_13_method_63_code
def yX11_count : MethodName := ⟨RX11, "count", "(I)I"⟩
def RJx8e188 : String := "java/lang/Cloneable"
def TJx8e188 : u_T := fun k => match k with
  | _ => ("", "", "", false)
def tyJx8e188 : Nat → FieldType := fun k => match k with
  | _ => .int
theorem nmJx8e188 : ∀ a, a < 0 → ∀ b, b < 0 → a ≠ b → (TJx8e188 a).2.1 ≠ (TJx8e188 b).2.1 := by decide +kernel
theorem tyJx8e188_ok : ∀ k, k < 0 → parseFieldDescriptor (TJx8e188 k).2.2.1 = some (tyJx8e188 k) := by decide +kernel
def RJ6 : String := "java/lang/Integer"
def TJ6 : u_T := fun k => match k with
  | _ => ("", "", "", false)
def tyJ6 : Nat → FieldType := fun k => match k with
  | _ => .int
abbrev wsJ60 : List Cond := u_ws RJ6 TJ6 0
theorem nmJ6 : ∀ a, a < 0 → ∀ b, b < 0 → a ≠ b → (TJ6 a).2.1 ≠ (TJ6 b).2.1 := by decide +kernel
theorem tyJ6_ok : ∀ k, k < 0 → parseFieldDescriptor (TJ6 k).2.2.1 = some (tyJ6 k) := by decide +kernel
abbrev cJ6_bitCount_0f7a4 : ByteArray := prog_15_method_49_code
def yJ6_bitCount_0f7a4 : MethodName := ⟨RJ6, "bitCount", "(I)I"⟩
def RJ9 : String := "java/lang/Math"
def TJ9 : u_T := fun k => match k with
  | _ => ("", "", "", false)
def tyJ9 : Nat → FieldType := fun k => match k with
  | _ => .int
abbrev wsJ90 : List Cond := u_ws RJ9 TJ9 0
theorem nmJ9 : ∀ a, a < 0 → ∀ b, b < 0 → a ≠ b → (TJ9 a).2.1 ≠ (TJ9 b).2.1 := by decide +kernel
theorem tyJ9_ok : ∀ k, k < 0 → parseFieldDescriptor (TJ9 k).2.2.1 = some (tyJ9 k) := by decide +kernel
abbrev cJ9_floorDiv_f86c9 : ByteArray := prog_16_method_49_code
def yJ9_floorDiv_f86c9 : MethodName := ⟨RJ9, "floorDiv", "(JJ)J"⟩
abbrev cJ9_abs_0f7a4 : ByteArray := prog_16_method_59_code
def yJ9_abs_0f7a4 : MethodName := ⟨RJ9, "abs", "(I)I"⟩
abbrev cJ9_abs_067f4 : ByteArray := prog_16_method_61_code
def yJ9_abs_067f4 : MethodName := ⟨RJ9, "abs", "(J)J"⟩
abbrev cJ9_max_7cf53 : ByteArray := prog_16_method_65_code
def yJ9_max_7cf53 : MethodName := ⟨RJ9, "max", "(II)I"⟩
abbrev cJ9_max_f86c9 : ByteArray := prog_16_method_66_code
def yJ9_max_f86c9 : MethodName := ⟨RJ9, "max", "(JJ)J"⟩
abbrev cJ9_min_7cf53 : ByteArray := prog_16_method_69_code
def yJ9_min_7cf53 : MethodName := ⟨RJ9, "min", "(II)I"⟩
abbrev cJ9_min_f86c9 : ByteArray := prog_16_method_70_code
def yJ9_min_f86c9 : MethodName := ⟨RJ9, "min", "(JJ)J"⟩
def RJ7 : String := "java/util/Arrays"
def TJ7 : u_T := fun k => match k with
  | _ => ("", "", "", false)
def tyJ7 : Nat → FieldType := fun k => match k with
  | _ => .int
abbrev wsJ70 : List Cond := u_ws RJ7 TJ7 0
theorem nmJ7 : ∀ a, a < 0 → ∀ b, b < 0 → a ≠ b → (TJ7 a).2.1 ≠ (TJ7 b).2.1 := by decide +kernel
theorem tyJ7_ok : ∀ k, k < 0 → parseFieldDescriptor (TJ7 k).2.2.1 = some (tyJ7 k) := by decide +kernel
abbrev cJ7_fill_53178 : ByteArray := prog_17_method_103_code
def yJ7_fill_53178 : MethodName := ⟨RJ7, "fill", "([II)V"⟩
def RL : String := "ThreadChartsLaw"
abbrev cL_law : ByteArray := code
def yL_law : MethodName := ⟨RL, "law", "([I)Z"⟩
abbrev vwCl : List vw_C := [(RX0, TX0, 11), (RX1, TX1, 6), (RX2, TX2, 9), (RX3, TX3, 4), (RX4, TX4, 3), (RX5, TX5, 8), (RX6, TX6, 9), (RX7, TX7, 8), (RX8, TX8, 2), (RX9, TX9, 4), (RX10, TX10, 17), (RX11, TX11, 59)]
end
section
theorem dX0_init_0 : decode cX0_init 0 = .ok (.aload_n 0, 1) := by decide +kernel
theorem dX0_init_1 : decode cX0_init 1 = .ok (.invokespecial 3, 3) := by decide +kernel
theorem dX0_init_4 : decode cX0_init 4 = .ok (.aload_n 0, 1) := by decide +kernel
theorem dX0_init_5 : decode cX0_init 5 = .ok (.aload_n 1, 1) := by decide +kernel
theorem dX0_init_6 : decode cX0_init 6 = .ok (.putfield 9, 3) := by decide +kernel
theorem dX0_init_9 : decode cX0_init 9 = .ok (.aload_n 0, 1) := by decide +kernel
theorem dX0_init_10 : decode cX0_init 10 = .ok (.iload_n 2, 1) := by decide +kernel
theorem dX0_init_11 : decode cX0_init 11 = .ok (.putfield 15, 3) := by decide +kernel
theorem dX0_init_14 : decode cX0_init 14 = .ok (.aload_n 0, 1) := by decide +kernel
theorem dX0_init_15 : decode cX0_init 15 = .ok (.iload_n 3, 1) := by decide +kernel
theorem dX0_init_16 : decode cX0_init 16 = .ok (.putfield 19, 3) := by decide +kernel
theorem dX0_init_19 : decode cX0_init 19 = .ok (.aload_n 0, 1) := by decide +kernel
theorem dX0_init_20 : decode cX0_init 20 = .ok (.aload_n 1, 1) := by decide +kernel
theorem dX0_init_21 : decode cX0_init 21 = .ok (.getfield 22, 3) := by decide +kernel
theorem dX0_init_24 : decode cX0_init 24 = .ok (.iconst 1, 1) := by decide +kernel
theorem dX0_init_25 : decode cX0_init 25 = .ok (.isub, 1) := by decide +kernel
theorem dX0_init_26 : decode cX0_init 26 = .ok (.iconst 4, 1) := by decide +kernel
theorem dX0_init_27 : decode cX0_init 27 = .ok (.invokestatic 27, 3) := by decide +kernel
theorem dX0_init_30 : decode cX0_init 30 = .ok (.putfield 33, 3) := by decide +kernel
theorem dX0_init_33 : decode cX0_init 33 = .ok (.aload_n 0, 1) := by decide +kernel
theorem dX0_init_34 : decode cX0_init 34 = .ok (.aload_n 0, 1) := by decide +kernel
theorem dX0_init_35 : decode cX0_init 35 = .ok (.getfield 33, 3) := by decide +kernel
theorem dX0_init_38 : decode cX0_init 38 = .ok (.iconst 1, 1) := by decide +kernel
theorem dX0_init_39 : decode cX0_init 39 = .ok (.isub, 1) := by decide +kernel
theorem dX0_init_40 : decode cX0_init 40 = .ok (.putfield 36, 3) := by decide +kernel
theorem dX0_init_43 : decode cX0_init 43 = .ok (.aload_n 0, 1) := by decide +kernel
theorem dX0_init_44 : decode cX0_init 44 = .ok (.iconst 4, 1) := by decide +kernel
theorem dX0_init_45 : decode cX0_init 45 = .ok (.newarray .int, 2) := by decide +kernel
theorem dX0_init_47 : decode cX0_init 47 = .ok (.putfield 39, 3) := by decide +kernel
theorem dX0_init_50 : decode cX0_init 50 = .ok (.aload_n 0, 1) := by decide +kernel
theorem dX0_init_51 : decode cX0_init 51 = .ok (.iconst 3, 1) := by decide +kernel
theorem dX0_init_52 : decode cX0_init 52 = .ok (.newarray .int, 2) := by decide +kernel
theorem dX0_init_54 : decode cX0_init 54 = .ok (.putfield 43, 3) := by decide +kernel
theorem dX0_init_57 : decode cX0_init 57 = .ok (.aload_n 0, 1) := by decide +kernel
theorem dX0_init_58 : decode cX0_init 58 = .ok (.iconst 3, 1) := by decide +kernel
theorem dX0_init_59 : decode cX0_init 59 = .ok (.newarray .int, 2) := by decide +kernel
theorem dX0_init_61 : decode cX0_init 61 = .ok (.putfield 46, 3) := by decide +kernel
theorem dX0_init_64 : decode cX0_init 64 = .ok (.aload_n 0, 1) := by decide +kernel
theorem dX0_init_65 : decode cX0_init 65 = .ok (.iconst 4, 1) := by decide +kernel
theorem dX0_init_66 : decode cX0_init 66 = .ok (.newarray .long, 2) := by decide +kernel
theorem dX0_init_68 : decode cX0_init 68 = .ok (.putfield 49, 3) := by decide +kernel
theorem dX0_init_71 : decode cX0_init 71 = .ok (.aload_n 0, 1) := by decide +kernel
theorem dX0_init_72 : decode cX0_init 72 = .ok (.iconst 4, 1) := by decide +kernel
theorem dX0_init_73 : decode cX0_init 73 = .ok (.newarray .long, 2) := by decide +kernel
theorem dX0_init_75 : decode cX0_init 75 = .ok (.putfield 53, 3) := by decide +kernel
theorem dX0_init_78 : decode cX0_init 78 = .ok (.aload_n 0, 1) := by decide +kernel
theorem dX0_init_79 : decode cX0_init 79 = .ok (.new 56, 3) := by decide +kernel
theorem dX0_init_82 : decode cX0_init 82 = .ok (.dup, 1) := by decide +kernel
theorem dX0_init_83 : decode cX0_init 83 = .ok (.invokespecial 58, 3) := by decide +kernel
theorem dX0_init_86 : decode cX0_init 86 = .ok (.putfield 59, 3) := by decide +kernel
theorem dX0_init_89 : decode cX0_init 89 = .ok (.return_, 1) := by decide +kernel
theorem dX0_putOrder_0 : decode cX0_putOrder 0 = .ok (.iload_n 1, 1) := by decide +kernel
theorem dX0_putOrder_1 : decode cX0_putOrder 1 = .ok (.istore_n 2, 1) := by decide +kernel
theorem dX0_putOrder_2 : decode cX0_putOrder 2 = .ok (.aload_n 0, 1) := by decide +kernel
theorem dX0_putOrder_3 : decode cX0_putOrder 3 = .ok (.getfield 33, 3) := by decide +kernel
theorem dX0_putOrder_6 : decode cX0_putOrder 6 = .ok (.iconst 1, 1) := by decide +kernel
theorem dX0_putOrder_7 : decode cX0_putOrder 7 = .ok (.isub, 1) := by decide +kernel
theorem dX0_putOrder_8 : decode cX0_putOrder 8 = .ok (.istore_n 3, 1) := by decide +kernel
theorem dX0_putOrder_9 : decode cX0_putOrder 9 = .ok (.iload_n 3, 1) := by decide +kernel
theorem dX0_putOrder_10 : decode cX0_putOrder 10 = .ok (.ifCond .lt 24, 3) := by decide +kernel
theorem dX0_putOrder_13 : decode cX0_putOrder 13 = .ok (.aload_n 0, 1) := by decide +kernel
theorem dX0_putOrder_14 : decode cX0_putOrder 14 = .ok (.getfield 39, 3) := by decide +kernel
theorem dX0_putOrder_17 : decode cX0_putOrder 17 = .ok (.iload_n 3, 1) := by decide +kernel
theorem dX0_putOrder_18 : decode cX0_putOrder 18 = .ok (.iload_n 2, 1) := by decide +kernel
theorem dX0_putOrder_19 : decode cX0_putOrder 19 = .ok (.bipush 10, 2) := by decide +kernel
theorem dX0_putOrder_21 : decode cX0_putOrder 21 = .ok (.irem, 1) := by decide +kernel
theorem dX0_putOrder_22 : decode cX0_putOrder 22 = .ok (.iastore, 1) := by decide +kernel
theorem dX0_putOrder_23 : decode cX0_putOrder 23 = .ok (.iload_n 2, 1) := by decide +kernel
theorem dX0_putOrder_24 : decode cX0_putOrder 24 = .ok (.bipush 10, 2) := by decide +kernel
theorem dX0_putOrder_26 : decode cX0_putOrder 26 = .ok (.idiv, 1) := by decide +kernel
theorem dX0_putOrder_27 : decode cX0_putOrder 27 = .ok (.istore_n 2, 1) := by decide +kernel
theorem dX0_putOrder_28 : decode cX0_putOrder 28 = .ok (.iinc 3 (-1), 3) := by decide +kernel
theorem dX0_putOrder_31 : decode cX0_putOrder 31 = .ok (.goto (-22), 3) := by decide +kernel
theorem dX0_putOrder_34 : decode cX0_putOrder 34 = .ok (.lconst 0, 1) := by decide +kernel
theorem dX0_putOrder_35 : decode cX0_putOrder 35 = .ok (.lstore_n 3, 1) := by decide +kernel
theorem dX0_putOrder_36 : decode cX0_putOrder 36 = .ok (.lconst 0, 1) := by decide +kernel
theorem dX0_putOrder_37 : decode cX0_putOrder 37 = .ok (.lstore 5, 2) := by decide +kernel
theorem dX0_putOrder_39 : decode cX0_putOrder 39 = .ok (.iconst 0, 1) := by decide +kernel
theorem dX0_putOrder_40 : decode cX0_putOrder 40 = .ok (.istore 7, 2) := by decide +kernel
theorem dX0_putOrder_42 : decode cX0_putOrder 42 = .ok (.iload 7, 2) := by decide +kernel
theorem dX0_putOrder_44 : decode cX0_putOrder 44 = .ok (.aload_n 0, 1) := by decide +kernel
theorem dX0_putOrder_45 : decode cX0_putOrder 45 = .ok (.getfield 33, 3) := by decide +kernel
theorem dX0_putOrder_48 : decode cX0_putOrder 48 = .ok (.if_icmp .ge 64, 3) := by decide +kernel
theorem dX0_putOrder_51 : decode cX0_putOrder 51 = .ok (.lload_n 3, 1) := by decide +kernel
theorem dX0_putOrder_52 : decode cX0_putOrder 52 = .ok (.aload_n 0, 1) := by decide +kernel
theorem dX0_putOrder_53 : decode cX0_putOrder 53 = .ok (.getfield 9, 3) := by decide +kernel
theorem dX0_putOrder_56 : decode cX0_putOrder 56 = .ok (.aload_n 0, 1) := by decide +kernel
theorem dX0_putOrder_57 : decode cX0_putOrder 57 = .ok (.getfield 39, 3) := by decide +kernel
theorem dX0_putOrder_60 : decode cX0_putOrder 60 = .ok (.iload 7, 2) := by decide +kernel
theorem dX0_putOrder_62 : decode cX0_putOrder 62 = .ok (.iaload, 1) := by decide +kernel
theorem dX0_putOrder_63 : decode cX0_putOrder 63 = .ok (.invokevirtual 63, 3) := by decide +kernel
theorem dX0_putOrder_66 : decode cX0_putOrder 66 = .ok (.i2l, 1) := by decide +kernel
theorem dX0_putOrder_67 : decode cX0_putOrder 67 = .ok (.ladd, 1) := by decide +kernel
theorem dX0_putOrder_68 : decode cX0_putOrder 68 = .ok (.lstore_n 3, 1) := by decide +kernel
theorem dX0_putOrder_69 : decode cX0_putOrder 69 = .ok (.lload 5, 2) := by decide +kernel
theorem dX0_putOrder_71 : decode cX0_putOrder 71 = .ok (.aload_n 0, 1) := by decide +kernel
theorem dX0_putOrder_72 : decode cX0_putOrder 72 = .ok (.getfield 9, 3) := by decide +kernel
theorem dX0_putOrder_75 : decode cX0_putOrder 75 = .ok (.aload_n 0, 1) := by decide +kernel
theorem dX0_putOrder_76 : decode cX0_putOrder 76 = .ok (.getfield 39, 3) := by decide +kernel
theorem dX0_putOrder_79 : decode cX0_putOrder 79 = .ok (.iload 7, 2) := by decide +kernel
theorem dX0_putOrder_81 : decode cX0_putOrder 81 = .ok (.iaload, 1) := by decide +kernel
theorem dX0_putOrder_82 : decode cX0_putOrder 82 = .ok (.invokevirtual 67, 3) := by decide +kernel
theorem dX0_putOrder_85 : decode cX0_putOrder 85 = .ok (.i2l, 1) := by decide +kernel
theorem dX0_putOrder_86 : decode cX0_putOrder 86 = .ok (.ladd, 1) := by decide +kernel
theorem dX0_putOrder_87 : decode cX0_putOrder 87 = .ok (.lstore 5, 2) := by decide +kernel
theorem dX0_putOrder_89 : decode cX0_putOrder 89 = .ok (.aload_n 0, 1) := by decide +kernel
theorem dX0_putOrder_90 : decode cX0_putOrder 90 = .ok (.getfield 49, 3) := by decide +kernel
theorem dX0_putOrder_93 : decode cX0_putOrder 93 = .ok (.iload 7, 2) := by decide +kernel
theorem dX0_putOrder_95 : decode cX0_putOrder 95 = .ok (.lload_n 3, 1) := by decide +kernel
theorem dX0_putOrder_96 : decode cX0_putOrder 96 = .ok (.lastore, 1) := by decide +kernel
theorem dX0_putOrder_97 : decode cX0_putOrder 97 = .ok (.aload_n 0, 1) := by decide +kernel
theorem dX0_putOrder_98 : decode cX0_putOrder 98 = .ok (.getfield 53, 3) := by decide +kernel
theorem dX0_putOrder_101 : decode cX0_putOrder 101 = .ok (.iload 7, 2) := by decide +kernel
theorem dX0_putOrder_103 : decode cX0_putOrder 103 = .ok (.lload 5, 2) := by decide +kernel
theorem dX0_putOrder_105 : decode cX0_putOrder 105 = .ok (.lastore, 1) := by decide +kernel
theorem dX0_putOrder_106 : decode cX0_putOrder 106 = .ok (.iinc 7 1, 3) := by decide +kernel
theorem dX0_putOrder_109 : decode cX0_putOrder 109 = .ok (.goto (-67), 3) := by decide +kernel
theorem dX0_putOrder_112 : decode cX0_putOrder 112 = .ok (.return_, 1) := by decide +kernel
theorem dX0_putModuli_0 : decode cX0_putModuli 0 = .ok (.aload_n 0, 1) := by decide +kernel
theorem dX0_putModuli_1 : decode cX0_putModuli 1 = .ok (.iload_n 1, 1) := by decide +kernel
theorem dX0_putModuli_2 : decode cX0_putModuli 2 = .ok (.invokevirtual 70, 3) := by decide +kernel
theorem dX0_putModuli_5 : decode cX0_putModuli 5 = .ok (.ifCond .eq 23, 3) := by decide +kernel
theorem dX0_putModuli_8 : decode cX0_putModuli 8 = .ok (.aload_n 0, 1) := by decide +kernel
theorem dX0_putModuli_9 : decode cX0_putModuli 9 = .ok (.getfield 43, 3) := by decide +kernel
theorem dX0_putModuli_12 : decode cX0_putModuli 12 = .ok (.iload_n 1, 1) := by decide +kernel
theorem dX0_putModuli_13 : decode cX0_putModuli 13 = .ok (.iload_n 2, 1) := by decide +kernel
theorem dX0_putModuli_14 : decode cX0_putModuli 14 = .ok (.bipush 100, 2) := by decide +kernel
theorem dX0_putModuli_16 : decode cX0_putModuli 16 = .ok (.idiv, 1) := by decide +kernel
theorem dX0_putModuli_17 : decode cX0_putModuli 17 = .ok (.iastore, 1) := by decide +kernel
theorem dX0_putModuli_18 : decode cX0_putModuli 18 = .ok (.aload_n 0, 1) := by decide +kernel
theorem dX0_putModuli_19 : decode cX0_putModuli 19 = .ok (.getfield 46, 3) := by decide +kernel
theorem dX0_putModuli_22 : decode cX0_putModuli 22 = .ok (.iload_n 1, 1) := by decide +kernel
theorem dX0_putModuli_23 : decode cX0_putModuli 23 = .ok (.iload_n 2, 1) := by decide +kernel
theorem dX0_putModuli_24 : decode cX0_putModuli 24 = .ok (.bipush 100, 2) := by decide +kernel
theorem dX0_putModuli_26 : decode cX0_putModuli 26 = .ok (.irem, 1) := by decide +kernel
theorem dX0_putModuli_27 : decode cX0_putModuli 27 = .ok (.iastore, 1) := by decide +kernel
theorem dX0_putModuli_28 : decode cX0_putModuli 28 = .ok (.return_, 1) := by decide +kernel
theorem dX0_hasPage_0 : decode cX0_hasPage 0 = .ok (.iload_n 1, 1) := by decide +kernel
theorem dX0_hasPage_1 : decode cX0_hasPage 1 = .ok (.ifCond .lt 15, 3) := by decide +kernel
theorem dX0_hasPage_4 : decode cX0_hasPage 4 = .ok (.iload_n 1, 1) := by decide +kernel
theorem dX0_hasPage_5 : decode cX0_hasPage 5 = .ok (.aload_n 0, 1) := by decide +kernel
theorem dX0_hasPage_6 : decode cX0_hasPage 6 = .ok (.getfield 36, 3) := by decide +kernel
theorem dX0_hasPage_9 : decode cX0_hasPage 9 = .ok (.if_icmp .ge 7, 3) := by decide +kernel
theorem dX0_hasPage_12 : decode cX0_hasPage 12 = .ok (.iconst 1, 1) := by decide +kernel
theorem dX0_hasPage_13 : decode cX0_hasPage 13 = .ok (.goto 4, 3) := by decide +kernel
theorem dX0_hasPage_16 : decode cX0_hasPage 16 = .ok (.iconst 0, 1) := by decide +kernel
theorem dX0_hasPage_17 : decode cX0_hasPage 17 = .ok (.ireturn, 1) := by decide +kernel
theorem dX0_hasMarks_0 : decode cX0_hasMarks 0 = .ok (.iload_n 1, 1) := by decide +kernel
theorem dX0_hasMarks_1 : decode cX0_hasMarks 1 = .ok (.ifCond .ge 5, 3) := by decide +kernel
theorem dX0_hasMarks_4 : decode cX0_hasMarks 4 = .ok (.iconst 0, 1) := by decide +kernel
theorem dX0_hasMarks_5 : decode cX0_hasMarks 5 = .ok (.ireturn, 1) := by decide +kernel
theorem dX0_hasMarks_6 : decode cX0_hasMarks 6 = .ok (.iload_n 1, 1) := by decide +kernel
theorem dX0_hasMarks_7 : decode cX0_hasMarks 7 = .ok (.istore_n 2, 1) := by decide +kernel
theorem dX0_hasMarks_8 : decode cX0_hasMarks 8 = .ok (.aload_n 0, 1) := by decide +kernel
theorem dX0_hasMarks_9 : decode cX0_hasMarks 9 = .ok (.getfield 33, 3) := by decide +kernel
theorem dX0_hasMarks_12 : decode cX0_hasMarks 12 = .ok (.iconst 1, 1) := by decide +kernel
theorem dX0_hasMarks_13 : decode cX0_hasMarks 13 = .ok (.isub, 1) := by decide +kernel
theorem dX0_hasMarks_14 : decode cX0_hasMarks 14 = .ok (.istore_n 3, 1) := by decide +kernel
theorem dX0_hasMarks_15 : decode cX0_hasMarks 15 = .ok (.iload_n 3, 1) := by decide +kernel
theorem dX0_hasMarks_16 : decode cX0_hasMarks 16 = .ok (.ifCond .lt 36, 3) := by decide +kernel
theorem dX0_hasMarks_19 : decode cX0_hasMarks 19 = .ok (.aload_n 0, 1) := by decide +kernel
theorem dX0_hasMarks_20 : decode cX0_hasMarks 20 = .ok (.getfield 9, 3) := by decide +kernel
theorem dX0_hasMarks_23 : decode cX0_hasMarks 23 = .ok (.aload_n 0, 1) := by decide +kernel
theorem dX0_hasMarks_24 : decode cX0_hasMarks 24 = .ok (.getfield 39, 3) := by decide +kernel
theorem dX0_hasMarks_27 : decode cX0_hasMarks 27 = .ok (.iload_n 3, 1) := by decide +kernel
theorem dX0_hasMarks_28 : decode cX0_hasMarks 28 = .ok (.iaload, 1) := by decide +kernel
theorem dX0_hasMarks_29 : decode cX0_hasMarks 29 = .ok (.iload_n 2, 1) := by decide +kernel
theorem dX0_hasMarks_30 : decode cX0_hasMarks 30 = .ok (.bipush 100, 2) := by decide +kernel
theorem dX0_hasMarks_32 : decode cX0_hasMarks 32 = .ok (.irem, 1) := by decide +kernel
theorem dX0_hasMarks_33 : decode cX0_hasMarks 33 = .ok (.invokevirtual 74, 3) := by decide +kernel
theorem dX0_hasMarks_36 : decode cX0_hasMarks 36 = .ok (.ifCond .ne 5, 3) := by decide +kernel
theorem dX0_hasMarks_39 : decode cX0_hasMarks 39 = .ok (.iconst 0, 1) := by decide +kernel
theorem dX0_hasMarks_40 : decode cX0_hasMarks 40 = .ok (.ireturn, 1) := by decide +kernel
theorem dX0_hasMarks_41 : decode cX0_hasMarks 41 = .ok (.iload_n 2, 1) := by decide +kernel
theorem dX0_hasMarks_42 : decode cX0_hasMarks 42 = .ok (.bipush 100, 2) := by decide +kernel
theorem dX0_hasMarks_44 : decode cX0_hasMarks 44 = .ok (.idiv, 1) := by decide +kernel
theorem dX0_hasMarks_45 : decode cX0_hasMarks 45 = .ok (.istore_n 2, 1) := by decide +kernel
theorem dX0_hasMarks_46 : decode cX0_hasMarks 46 = .ok (.iinc 3 (-1), 3) := by decide +kernel
theorem dX0_hasMarks_49 : decode cX0_hasMarks 49 = .ok (.goto (-34), 3) := by decide +kernel
theorem dX0_hasMarks_52 : decode cX0_hasMarks 52 = .ok (.iload_n 2, 1) := by decide +kernel
theorem dX0_hasMarks_53 : decode cX0_hasMarks 53 = .ok (.ifCond .ne 7, 3) := by decide +kernel
theorem dX0_hasMarks_56 : decode cX0_hasMarks 56 = .ok (.iconst 1, 1) := by decide +kernel
theorem dX0_hasMarks_57 : decode cX0_hasMarks 57 = .ok (.goto 4, 3) := by decide +kernel
theorem dX0_hasMarks_60 : decode cX0_hasMarks 60 = .ok (.iconst 0, 1) := by decide +kernel
theorem dX0_hasMarks_61 : decode cX0_hasMarks 61 = .ok (.ireturn, 1) := by decide +kernel
theorem dX0_markAt_0 : decode cX0_markAt 0 = .ok (.iload_n 1, 1) := by decide +kernel
theorem dX0_markAt_1 : decode cX0_markAt 1 = .ok (.istore_n 3, 1) := by decide +kernel
theorem dX0_markAt_2 : decode cX0_markAt 2 = .ok (.aload_n 0, 1) := by decide +kernel
theorem dX0_markAt_3 : decode cX0_markAt 3 = .ok (.getfield 33, 3) := by decide +kernel
theorem dX0_markAt_6 : decode cX0_markAt 6 = .ok (.iconst 1, 1) := by decide +kernel
theorem dX0_markAt_7 : decode cX0_markAt 7 = .ok (.isub, 1) := by decide +kernel
theorem dX0_markAt_8 : decode cX0_markAt 8 = .ok (.istore 4, 2) := by decide +kernel
theorem dX0_markAt_10 : decode cX0_markAt 10 = .ok (.iload 4, 2) := by decide +kernel
theorem dX0_markAt_12 : decode cX0_markAt 12 = .ok (.iload_n 2, 1) := by decide +kernel
theorem dX0_markAt_13 : decode cX0_markAt 13 = .ok (.if_icmp .le 14, 3) := by decide +kernel
theorem dX0_markAt_16 : decode cX0_markAt 16 = .ok (.iload_n 3, 1) := by decide +kernel
theorem dX0_markAt_17 : decode cX0_markAt 17 = .ok (.bipush 100, 2) := by decide +kernel
theorem dX0_markAt_19 : decode cX0_markAt 19 = .ok (.idiv, 1) := by decide +kernel
theorem dX0_markAt_20 : decode cX0_markAt 20 = .ok (.istore_n 3, 1) := by decide +kernel
theorem dX0_markAt_21 : decode cX0_markAt 21 = .ok (.iinc 4 (-1), 3) := by decide +kernel
theorem dX0_markAt_24 : decode cX0_markAt 24 = .ok (.goto (-14), 3) := by decide +kernel
theorem dX0_markAt_27 : decode cX0_markAt 27 = .ok (.iload_n 3, 1) := by decide +kernel
theorem dX0_markAt_28 : decode cX0_markAt 28 = .ok (.bipush 100, 2) := by decide +kernel
theorem dX0_markAt_30 : decode cX0_markAt 30 = .ok (.irem, 1) := by decide +kernel
theorem dX0_markAt_31 : decode cX0_markAt 31 = .ok (.ireturn, 1) := by decide +kernel
theorem dX0_midOf_0 : decode cX0_midOf 0 = .ok (.aload_n 0, 1) := by decide +kernel
theorem dX0_midOf_1 : decode cX0_midOf 1 = .ok (.iload_n 1, 1) := by decide +kernel
theorem dX0_midOf_2 : decode cX0_midOf 2 = .ok (.invokevirtual 70, 3) := by decide +kernel
theorem dX0_midOf_5 : decode cX0_midOf 5 = .ok (.ifCond .eq 19, 3) := by decide +kernel
theorem dX0_midOf_8 : decode cX0_midOf 8 = .ok (.aload_n 0, 1) := by decide +kernel
theorem dX0_midOf_9 : decode cX0_midOf 9 = .ok (.getfield 43, 3) := by decide +kernel
theorem dX0_midOf_12 : decode cX0_midOf 12 = .ok (.iload_n 1, 1) := by decide +kernel
theorem dX0_midOf_13 : decode cX0_midOf 13 = .ok (.iaload, 1) := by decide +kernel
theorem dX0_midOf_14 : decode cX0_midOf 14 = .ok (.aload_n 0, 1) := by decide +kernel
theorem dX0_midOf_15 : decode cX0_midOf 15 = .ok (.getfield 46, 3) := by decide +kernel
theorem dX0_midOf_18 : decode cX0_midOf 18 = .ok (.iload_n 1, 1) := by decide +kernel
theorem dX0_midOf_19 : decode cX0_midOf 19 = .ok (.iaload, 1) := by decide +kernel
theorem dX0_midOf_20 : decode cX0_midOf 20 = .ok (.iadd, 1) := by decide +kernel
theorem dX0_midOf_21 : decode cX0_midOf 21 = .ok (.ifCond .gt 5, 3) := by decide +kernel
theorem dX0_midOf_24 : decode cX0_midOf 24 = .ok (.lconst 0, 1) := by decide +kernel
theorem dX0_midOf_25 : decode cX0_midOf 25 = .ok (.lreturn, 1) := by decide +kernel
theorem dX0_midOf_26 : decode cX0_midOf 26 = .ok (.aload_n 0, 1) := by decide +kernel
theorem dX0_midOf_27 : decode cX0_midOf 27 = .ok (.getfield 19, 3) := by decide +kernel
theorem dX0_midOf_30 : decode cX0_midOf 30 = .ok (.aload_n 0, 1) := by decide +kernel
theorem dX0_midOf_31 : decode cX0_midOf 31 = .ok (.getfield 43, 3) := by decide +kernel
theorem dX0_midOf_34 : decode cX0_midOf 34 = .ok (.iload_n 1, 1) := by decide +kernel
theorem dX0_midOf_35 : decode cX0_midOf 35 = .ok (.iaload, 1) := by decide +kernel
theorem dX0_midOf_36 : decode cX0_midOf 36 = .ok (.imul, 1) := by decide +kernel
theorem dX0_midOf_37 : decode cX0_midOf 37 = .ok (.aload_n 0, 1) := by decide +kernel
theorem dX0_midOf_38 : decode cX0_midOf 38 = .ok (.getfield 43, 3) := by decide +kernel
theorem dX0_midOf_41 : decode cX0_midOf 41 = .ok (.iload_n 1, 1) := by decide +kernel
theorem dX0_midOf_42 : decode cX0_midOf 42 = .ok (.iaload, 1) := by decide +kernel
theorem dX0_midOf_43 : decode cX0_midOf 43 = .ok (.aload_n 0, 1) := by decide +kernel
theorem dX0_midOf_44 : decode cX0_midOf 44 = .ok (.getfield 46, 3) := by decide +kernel
theorem dX0_midOf_47 : decode cX0_midOf 47 = .ok (.iload_n 1, 1) := by decide +kernel
theorem dX0_midOf_48 : decode cX0_midOf 48 = .ok (.iaload, 1) := by decide +kernel
theorem dX0_midOf_49 : decode cX0_midOf 49 = .ok (.iadd, 1) := by decide +kernel
theorem dX0_midOf_50 : decode cX0_midOf 50 = .ok (.idiv, 1) := by decide +kernel
theorem dX0_midOf_51 : decode cX0_midOf 51 = .ok (.i2l, 1) := by decide +kernel
theorem dX0_midOf_52 : decode cX0_midOf 52 = .ok (.lreturn, 1) := by decide +kernel
theorem dX0_meets_0 : decode cX0_meets 0 = .ok (.lload_n 2, 1) := by decide +kernel
theorem dX0_meets_1 : decode cX0_meets 1 = .ok (.lload 4, 2) := by decide +kernel
theorem dX0_meets_3 : decode cX0_meets 3 = .ok (.lload_n 2, 1) := by decide +kernel
theorem dX0_meets_4 : decode cX0_meets 4 = .ok (.lsub, 1) := by decide +kernel
theorem dX0_meets_5 : decode cX0_meets 5 = .ok (.aload_n 0, 1) := by decide +kernel
theorem dX0_meets_6 : decode cX0_meets 6 = .ok (.iload_n 1, 1) := by decide +kernel
theorem dX0_meets_7 : decode cX0_meets 7 = .ok (.invokevirtual 78, 3) := by decide +kernel
theorem dX0_meets_10 : decode cX0_meets 10 = .ok (.lmul, 1) := by decide +kernel
theorem dX0_meets_11 : decode cX0_meets 11 = .ok (.aload_n 0, 1) := by decide +kernel
theorem dX0_meets_12 : decode cX0_meets 12 = .ok (.getfield 19, 3) := by decide +kernel
theorem dX0_meets_15 : decode cX0_meets 15 = .ok (.i2l, 1) := by decide +kernel
theorem dX0_meets_16 : decode cX0_meets 16 = .ok (.invokestatic 82, 3) := by decide +kernel
theorem dX0_meets_19 : decode cX0_meets 19 = .ok (.ladd, 1) := by decide +kernel
theorem dX0_meets_20 : decode cX0_meets 20 = .ok (.lreturn, 1) := by decide +kernel
theorem dX0_sumAt_0 : decode cX0_sumAt 0 = .ok (.aload_n 0, 1) := by decide +kernel
theorem dX0_sumAt_1 : decode cX0_sumAt 1 = .ok (.iload_n 1, 1) := by decide +kernel
theorem dX0_sumAt_2 : decode cX0_sumAt 2 = .ok (.invokevirtual 70, 3) := by decide +kernel
theorem dX0_sumAt_5 : decode cX0_sumAt 5 = .ok (.ifCond .ne 5, 3) := by decide +kernel
theorem dX0_sumAt_8 : decode cX0_sumAt 8 = .ok (.lconst 0, 1) := by decide +kernel
theorem dX0_sumAt_9 : decode cX0_sumAt 9 = .ok (.lreturn, 1) := by decide +kernel
theorem dX0_sumAt_10 : decode cX0_sumAt 10 = .ok (.aload_n 0, 1) := by decide +kernel
theorem dX0_sumAt_11 : decode cX0_sumAt 11 = .ok (.getfield 43, 3) := by decide +kernel
theorem dX0_sumAt_14 : decode cX0_sumAt 14 = .ok (.iload_n 1, 1) := by decide +kernel
theorem dX0_sumAt_15 : decode cX0_sumAt 15 = .ok (.iaload, 1) := by decide +kernel
theorem dX0_sumAt_16 : decode cX0_sumAt 16 = .ok (.i2l, 1) := by decide +kernel
theorem dX0_sumAt_17 : decode cX0_sumAt 17 = .ok (.lstore 4, 2) := by decide +kernel
theorem dX0_sumAt_19 : decode cX0_sumAt 19 = .ok (.aload_n 0, 1) := by decide +kernel
theorem dX0_sumAt_20 : decode cX0_sumAt 20 = .ok (.getfield 46, 3) := by decide +kernel
theorem dX0_sumAt_23 : decode cX0_sumAt 23 = .ok (.iload_n 1, 1) := by decide +kernel
theorem dX0_sumAt_24 : decode cX0_sumAt 24 = .ok (.iaload, 1) := by decide +kernel
theorem dX0_sumAt_25 : decode cX0_sumAt 25 = .ok (.i2l, 1) := by decide +kernel
theorem dX0_sumAt_26 : decode cX0_sumAt 26 = .ok (.lstore 6, 2) := by decide +kernel
theorem dX0_sumAt_28 : decode cX0_sumAt 28 = .ok (.lload_n 2, 1) := by decide +kernel
theorem dX0_sumAt_29 : decode cX0_sumAt 29 = .ok (.lload 4, 2) := by decide +kernel
theorem dX0_sumAt_31 : decode cX0_sumAt 31 = .ok (.lload 6, 2) := by decide +kernel
theorem dX0_sumAt_33 : decode cX0_sumAt 33 = .ok (.ladd, 1) := by decide +kernel
theorem dX0_sumAt_34 : decode cX0_sumAt 34 = .ok (.lmul, 1) := by decide +kernel
theorem dX0_sumAt_35 : decode cX0_sumAt 35 = .ok (.lload 4, 2) := by decide +kernel
theorem dX0_sumAt_37 : decode cX0_sumAt 37 = .ok (.lload 6, 2) := by decide +kernel
theorem dX0_sumAt_39 : decode cX0_sumAt 39 = .ok (.lmul, 1) := by decide +kernel
theorem dX0_sumAt_40 : decode cX0_sumAt 40 = .ok (.invokestatic 82, 3) := by decide +kernel
theorem dX0_sumAt_43 : decode cX0_sumAt 43 = .ok (.lreturn, 1) := by decide +kernel
theorem dX0_lastSumOnFlat_0 : decode cX0_lastSumOnFlat 0 = .ok (.aload_n 1, 1) := by decide +kernel
theorem dX0_lastSumOnFlat_1 : decode cX0_lastSumOnFlat 1 = .ok (.arraylength, 1) := by decide +kernel
theorem dX0_lastSumOnFlat_2 : decode cX0_lastSumOnFlat 2 = .ok (.ifCond .le 9, 3) := by decide +kernel
theorem dX0_lastSumOnFlat_5 : decode cX0_lastSumOnFlat 5 = .ok (.aload_n 1, 1) := by decide +kernel
theorem dX0_lastSumOnFlat_6 : decode cX0_lastSumOnFlat 6 = .ok (.iconst 0, 1) := by decide +kernel
theorem dX0_lastSumOnFlat_7 : decode cX0_lastSumOnFlat 7 = .ok (.laload, 1) := by decide +kernel
theorem dX0_lastSumOnFlat_8 : decode cX0_lastSumOnFlat 8 = .ok (.goto 4, 3) := by decide +kernel
theorem dX0_lastSumOnFlat_11 : decode cX0_lastSumOnFlat 11 = .ok (.lconst 0, 1) := by decide +kernel
theorem dX0_lastSumOnFlat_12 : decode cX0_lastSumOnFlat 12 = .ok (.lstore_n 3, 1) := by decide +kernel
theorem dX0_lastSumOnFlat_13 : decode cX0_lastSumOnFlat 13 = .ok (.iconst 0, 1) := by decide +kernel
theorem dX0_lastSumOnFlat_14 : decode cX0_lastSumOnFlat 14 = .ok (.istore 5, 2) := by decide +kernel
theorem dX0_lastSumOnFlat_16 : decode cX0_lastSumOnFlat 16 = .ok (.iload 5, 2) := by decide +kernel
theorem dX0_lastSumOnFlat_18 : decode cX0_lastSumOnFlat 18 = .ok (.aload_n 0, 1) := by decide +kernel
theorem dX0_lastSumOnFlat_19 : decode cX0_lastSumOnFlat 19 = .ok (.getfield 36, 3) := by decide +kernel
theorem dX0_lastSumOnFlat_22 : decode cX0_lastSumOnFlat 22 = .ok (.if_icmp .ge 59, 3) := by decide +kernel
theorem dX0_lastSumOnFlat_25 : decode cX0_lastSumOnFlat 25 = .ok (.iload 5, 2) := by decide +kernel
theorem dX0_lastSumOnFlat_27 : decode cX0_lastSumOnFlat 27 = .ok (.iconst 1, 1) := by decide +kernel
theorem dX0_lastSumOnFlat_28 : decode cX0_lastSumOnFlat 28 = .ok (.iadd, 1) := by decide +kernel
theorem dX0_lastSumOnFlat_29 : decode cX0_lastSumOnFlat 29 = .ok (.aload_n 1, 1) := by decide +kernel
theorem dX0_lastSumOnFlat_30 : decode cX0_lastSumOnFlat 30 = .ok (.arraylength, 1) := by decide +kernel
theorem dX0_lastSumOnFlat_31 : decode cX0_lastSumOnFlat 31 = .ok (.if_icmp .ge 50, 3) := by decide +kernel
theorem dX0_lastSumOnFlat_34 : decode cX0_lastSumOnFlat 34 = .ok (.aload_n 0, 1) := by decide +kernel
theorem dX0_lastSumOnFlat_35 : decode cX0_lastSumOnFlat 35 = .ok (.iload 5, 2) := by decide +kernel
theorem dX0_lastSumOnFlat_37 : decode cX0_lastSumOnFlat 37 = .ok (.aload_n 0, 1) := by decide +kernel
theorem dX0_lastSumOnFlat_38 : decode cX0_lastSumOnFlat 38 = .ok (.iload 5, 2) := by decide +kernel
theorem dX0_lastSumOnFlat_40 : decode cX0_lastSumOnFlat 40 = .ok (.aload_n 0, 1) := by decide +kernel
theorem dX0_lastSumOnFlat_41 : decode cX0_lastSumOnFlat 41 = .ok (.getfield 43, 3) := by decide +kernel
theorem dX0_lastSumOnFlat_44 : decode cX0_lastSumOnFlat 44 = .ok (.iload 5, 2) := by decide +kernel
theorem dX0_lastSumOnFlat_46 : decode cX0_lastSumOnFlat 46 = .ok (.iaload, 1) := by decide +kernel
theorem dX0_lastSumOnFlat_47 : decode cX0_lastSumOnFlat 47 = .ok (.i2l, 1) := by decide +kernel
theorem dX0_lastSumOnFlat_48 : decode cX0_lastSumOnFlat 48 = .ok (.lload_n 3, 1) := by decide +kernel
theorem dX0_lastSumOnFlat_49 : decode cX0_lastSumOnFlat 49 = .ok (.lmul, 1) := by decide +kernel
theorem dX0_lastSumOnFlat_50 : decode cX0_lastSumOnFlat 50 = .ok (.aload_n 0, 1) := by decide +kernel
theorem dX0_lastSumOnFlat_51 : decode cX0_lastSumOnFlat 51 = .ok (.getfield 46, 3) := by decide +kernel
theorem dX0_lastSumOnFlat_54 : decode cX0_lastSumOnFlat 54 = .ok (.iload 5, 2) := by decide +kernel
theorem dX0_lastSumOnFlat_56 : decode cX0_lastSumOnFlat 56 = .ok (.iaload, 1) := by decide +kernel
theorem dX0_lastSumOnFlat_57 : decode cX0_lastSumOnFlat 57 = .ok (.i2l, 1) := by decide +kernel
theorem dX0_lastSumOnFlat_58 : decode cX0_lastSumOnFlat 58 = .ok (.aload_n 1, 1) := by decide +kernel
theorem dX0_lastSumOnFlat_59 : decode cX0_lastSumOnFlat 59 = .ok (.iload 5, 2) := by decide +kernel
theorem dX0_lastSumOnFlat_61 : decode cX0_lastSumOnFlat 61 = .ok (.iconst 1, 1) := by decide +kernel
theorem dX0_lastSumOnFlat_62 : decode cX0_lastSumOnFlat 62 = .ok (.iadd, 1) := by decide +kernel
theorem dX0_lastSumOnFlat_63 : decode cX0_lastSumOnFlat 63 = .ok (.laload, 1) := by decide +kernel
theorem dX0_lastSumOnFlat_64 : decode cX0_lastSumOnFlat 64 = .ok (.lmul, 1) := by decide +kernel
theorem dX0_lastSumOnFlat_65 : decode cX0_lastSumOnFlat 65 = .ok (.invokevirtual 86, 3) := by decide +kernel
theorem dX0_lastSumOnFlat_68 : decode cX0_lastSumOnFlat 68 = .ok (.iload_n 2, 1) := by decide +kernel
theorem dX0_lastSumOnFlat_69 : decode cX0_lastSumOnFlat 69 = .ok (.i2l, 1) := by decide +kernel
theorem dX0_lastSumOnFlat_70 : decode cX0_lastSumOnFlat 70 = .ok (.ladd, 1) := by decide +kernel
theorem dX0_lastSumOnFlat_71 : decode cX0_lastSumOnFlat 71 = .ok (.invokevirtual 90, 3) := by decide +kernel
theorem dX0_lastSumOnFlat_74 : decode cX0_lastSumOnFlat 74 = .ok (.lstore_n 3, 1) := by decide +kernel
theorem dX0_lastSumOnFlat_75 : decode cX0_lastSumOnFlat 75 = .ok (.iinc 5 1, 3) := by decide +kernel
theorem dX0_lastSumOnFlat_78 : decode cX0_lastSumOnFlat 78 = .ok (.goto (-62), 3) := by decide +kernel
theorem dX0_lastSumOnFlat_81 : decode cX0_lastSumOnFlat 81 = .ok (.lload_n 3, 1) := by decide +kernel
theorem dX0_lastSumOnFlat_82 : decode cX0_lastSumOnFlat 82 = .ok (.lreturn, 1) := by decide +kernel
theorem dX0_tallWith_0 : decode cX0_tallWith 0 = .ok (.aload_n 0, 1) := by decide +kernel
theorem dX0_tallWith_1 : decode cX0_tallWith 1 = .ok (.iload_n 1, 1) := by decide +kernel
theorem dX0_tallWith_2 : decode cX0_tallWith 2 = .ok (.invokevirtual 70, 3) := by decide +kernel
theorem dX0_tallWith_5 : decode cX0_tallWith 5 = .ok (.ifCond .ne 5, 3) := by decide +kernel
theorem dX0_tallWith_8 : decode cX0_tallWith 8 = .ok (.lconst 0, 1) := by decide +kernel
theorem dX0_tallWith_9 : decode cX0_tallWith 9 = .ok (.lreturn, 1) := by decide +kernel
theorem dX0_tallWith_10 : decode cX0_tallWith 10 = .ok (.aload_n 0, 1) := by decide +kernel
theorem dX0_tallWith_11 : decode cX0_tallWith 11 = .ok (.getfield 9, 3) := by decide +kernel
theorem dX0_tallWith_14 : decode cX0_tallWith 14 = .ok (.aload_n 0, 1) := by decide +kernel
theorem dX0_tallWith_15 : decode cX0_tallWith 15 = .ok (.getfield 39, 3) := by decide +kernel
theorem dX0_tallWith_18 : decode cX0_tallWith 18 = .ok (.iload_n 1, 1) := by decide +kernel
theorem dX0_tallWith_19 : decode cX0_tallWith 19 = .ok (.iconst 1, 1) := by decide +kernel
theorem dX0_tallWith_20 : decode cX0_tallWith 20 = .ok (.iadd, 1) := by decide +kernel
theorem dX0_tallWith_21 : decode cX0_tallWith 21 = .ok (.iaload, 1) := by decide +kernel
theorem dX0_tallWith_22 : decode cX0_tallWith 22 = .ok (.invokevirtual 63, 3) := by decide +kernel
theorem dX0_tallWith_25 : decode cX0_tallWith 25 = .ok (.i2l, 1) := by decide +kernel
theorem dX0_tallWith_26 : decode cX0_tallWith 26 = .ok (.lstore 4, 2) := by decide +kernel
theorem dX0_tallWith_28 : decode cX0_tallWith 28 = .ok (.aload_n 0, 1) := by decide +kernel
theorem dX0_tallWith_29 : decode cX0_tallWith 29 = .ok (.getfield 9, 3) := by decide +kernel
theorem dX0_tallWith_32 : decode cX0_tallWith 32 = .ok (.aload_n 0, 1) := by decide +kernel
theorem dX0_tallWith_33 : decode cX0_tallWith 33 = .ok (.getfield 39, 3) := by decide +kernel
theorem dX0_tallWith_36 : decode cX0_tallWith 36 = .ok (.iload_n 1, 1) := by decide +kernel
theorem dX0_tallWith_37 : decode cX0_tallWith 37 = .ok (.iconst 1, 1) := by decide +kernel
theorem dX0_tallWith_38 : decode cX0_tallWith 38 = .ok (.iadd, 1) := by decide +kernel
theorem dX0_tallWith_39 : decode cX0_tallWith 39 = .ok (.iaload, 1) := by decide +kernel
theorem dX0_tallWith_40 : decode cX0_tallWith 40 = .ok (.invokevirtual 67, 3) := by decide +kernel
theorem dX0_tallWith_43 : decode cX0_tallWith 43 = .ok (.i2l, 1) := by decide +kernel
theorem dX0_tallWith_44 : decode cX0_tallWith 44 = .ok (.lstore 6, 2) := by decide +kernel
theorem dX0_tallWith_46 : decode cX0_tallWith 46 = .ok (.iload_n 2, 1) := by decide +kernel
theorem dX0_tallWith_47 : decode cX0_tallWith 47 = .ok (.i2l, 1) := by decide +kernel
theorem dX0_tallWith_48 : decode cX0_tallWith 48 = .ok (.aload_n 0, 1) := by decide +kernel
theorem dX0_tallWith_49 : decode cX0_tallWith 49 = .ok (.getfield 49, 3) := by decide +kernel
theorem dX0_tallWith_52 : decode cX0_tallWith 52 = .ok (.iload_n 1, 1) := by decide +kernel
theorem dX0_tallWith_53 : decode cX0_tallWith 53 = .ok (.laload, 1) := by decide +kernel
theorem dX0_tallWith_54 : decode cX0_tallWith 54 = .ok (.lmul, 1) := by decide +kernel
theorem dX0_tallWith_55 : decode cX0_tallWith 55 = .ok (.iload_n 3, 1) := by decide +kernel
theorem dX0_tallWith_56 : decode cX0_tallWith 56 = .ok (.i2l, 1) := by decide +kernel
theorem dX0_tallWith_57 : decode cX0_tallWith 57 = .ok (.lload 4, 2) := by decide +kernel
theorem dX0_tallWith_59 : decode cX0_tallWith 59 = .ok (.lmul, 1) := by decide +kernel
theorem dX0_tallWith_60 : decode cX0_tallWith 60 = .ok (.invokestatic 94, 3) := by decide +kernel
theorem dX0_tallWith_63 : decode cX0_tallWith 63 = .ok (.lstore 8, 2) := by decide +kernel
theorem dX0_tallWith_65 : decode cX0_tallWith 65 = .ok (.lload 8, 2) := by decide +kernel
theorem dX0_tallWith_67 : decode cX0_tallWith 67 = .ok (.aload_n 0, 1) := by decide +kernel
theorem dX0_tallWith_68 : decode cX0_tallWith 68 = .ok (.getfield 49, 3) := by decide +kernel
theorem dX0_tallWith_71 : decode cX0_tallWith 71 = .ok (.iload_n 1, 1) := by decide +kernel
theorem dX0_tallWith_72 : decode cX0_tallWith 72 = .ok (.iconst 1, 1) := by decide +kernel
theorem dX0_tallWith_73 : decode cX0_tallWith 73 = .ok (.iadd, 1) := by decide +kernel
theorem dX0_tallWith_74 : decode cX0_tallWith 74 = .ok (.laload, 1) := by decide +kernel
theorem dX0_tallWith_75 : decode cX0_tallWith 75 = .ok (.iload_n 2, 1) := by decide +kernel
theorem dX0_tallWith_76 : decode cX0_tallWith 76 = .ok (.i2l, 1) := by decide +kernel
theorem dX0_tallWith_77 : decode cX0_tallWith 77 = .ok (.iload_n 3, 1) := by decide +kernel
theorem dX0_tallWith_78 : decode cX0_tallWith 78 = .ok (.i2l, 1) := by decide +kernel
theorem dX0_tallWith_79 : decode cX0_tallWith 79 = .ok (.invokestatic 96, 3) := by decide +kernel
theorem dX0_tallWith_82 : decode cX0_tallWith 82 = .ok (.invokestatic 94, 3) := by decide +kernel
theorem dX0_tallWith_85 : decode cX0_tallWith 85 = .ok (.lstore 8, 2) := by decide +kernel
theorem dX0_tallWith_87 : decode cX0_tallWith 87 = .ok (.iload_n 2, 1) := by decide +kernel
theorem dX0_tallWith_88 : decode cX0_tallWith 88 = .ok (.i2l, 1) := by decide +kernel
theorem dX0_tallWith_89 : decode cX0_tallWith 89 = .ok (.aload_n 0, 1) := by decide +kernel
theorem dX0_tallWith_90 : decode cX0_tallWith 90 = .ok (.getfield 53, 3) := by decide +kernel
theorem dX0_tallWith_93 : decode cX0_tallWith 93 = .ok (.iload_n 1, 1) := by decide +kernel
theorem dX0_tallWith_94 : decode cX0_tallWith 94 = .ok (.laload, 1) := by decide +kernel
theorem dX0_tallWith_95 : decode cX0_tallWith 95 = .ok (.lmul, 1) := by decide +kernel
theorem dX0_tallWith_96 : decode cX0_tallWith 96 = .ok (.iload_n 3, 1) := by decide +kernel
theorem dX0_tallWith_97 : decode cX0_tallWith 97 = .ok (.i2l, 1) := by decide +kernel
theorem dX0_tallWith_98 : decode cX0_tallWith 98 = .ok (.lload 6, 2) := by decide +kernel
theorem dX0_tallWith_100 : decode cX0_tallWith 100 = .ok (.lmul, 1) := by decide +kernel
theorem dX0_tallWith_101 : decode cX0_tallWith 101 = .ok (.invokestatic 100, 3) := by decide +kernel
theorem dX0_tallWith_104 : decode cX0_tallWith 104 = .ok (.lstore 10, 2) := by decide +kernel
theorem dX0_tallWith_106 : decode cX0_tallWith 106 = .ok (.lload 10, 2) := by decide +kernel
theorem dX0_tallWith_108 : decode cX0_tallWith 108 = .ok (.aload_n 0, 1) := by decide +kernel
theorem dX0_tallWith_109 : decode cX0_tallWith 109 = .ok (.getfield 53, 3) := by decide +kernel
theorem dX0_tallWith_112 : decode cX0_tallWith 112 = .ok (.iload_n 1, 1) := by decide +kernel
theorem dX0_tallWith_113 : decode cX0_tallWith 113 = .ok (.iconst 1, 1) := by decide +kernel
theorem dX0_tallWith_114 : decode cX0_tallWith 114 = .ok (.iadd, 1) := by decide +kernel
theorem dX0_tallWith_115 : decode cX0_tallWith 115 = .ok (.laload, 1) := by decide +kernel
theorem dX0_tallWith_116 : decode cX0_tallWith 116 = .ok (.iload_n 2, 1) := by decide +kernel
theorem dX0_tallWith_117 : decode cX0_tallWith 117 = .ok (.i2l, 1) := by decide +kernel
theorem dX0_tallWith_118 : decode cX0_tallWith 118 = .ok (.iload_n 3, 1) := by decide +kernel
theorem dX0_tallWith_119 : decode cX0_tallWith 119 = .ok (.i2l, 1) := by decide +kernel
theorem dX0_tallWith_120 : decode cX0_tallWith 120 = .ok (.invokestatic 96, 3) := by decide +kernel
theorem dX0_tallWith_123 : decode cX0_tallWith 123 = .ok (.invokestatic 100, 3) := by decide +kernel
theorem dX0_tallWith_126 : decode cX0_tallWith 126 = .ok (.lstore 10, 2) := by decide +kernel
theorem dX0_tallWith_128 : decode cX0_tallWith 128 = .ok (.lload 10, 2) := by decide +kernel
theorem dX0_tallWith_130 : decode cX0_tallWith 130 = .ok (.lload 8, 2) := by decide +kernel
theorem dX0_tallWith_132 : decode cX0_tallWith 132 = .ok (.lsub, 1) := by decide +kernel
theorem dX0_tallWith_133 : decode cX0_tallWith 133 = .ok (.lreturn, 1) := by decide +kernel
theorem dX0_middleOf_0 : decode cX0_middleOf 0 = .ok (.lload_n 0, 1) := by decide +kernel
theorem dX0_middleOf_1 : decode cX0_middleOf 1 = .ok (.lload_n 2, 1) := by decide +kernel
theorem dX0_middleOf_2 : decode cX0_middleOf 2 = .ok (.lmul, 1) := by decide +kernel
theorem dX0_middleOf_3 : decode cX0_middleOf 3 = .ok (.lload 4, 2) := by decide +kernel
theorem dX0_middleOf_5 : decode cX0_middleOf 5 = .ok (.lmul, 1) := by decide +kernel
theorem dX0_middleOf_6 : decode cX0_middleOf 6 = .ok (.lload_n 2, 1) := by decide +kernel
theorem dX0_middleOf_7 : decode cX0_middleOf 7 = .ok (.lload 4, 2) := by decide +kernel
theorem dX0_middleOf_9 : decode cX0_middleOf 9 = .ok (.ladd, 1) := by decide +kernel
theorem dX0_middleOf_10 : decode cX0_middleOf 10 = .ok (.invokestatic 82, 3) := by decide +kernel
theorem dX0_middleOf_13 : decode cX0_middleOf 13 = .ok (.lreturn, 1) := by decide +kernel
theorem dX0_finestOf_0 : decode cX0_finestOf 0 = .ok (.iconst 0, 1) := by decide +kernel
theorem dX0_finestOf_1 : decode cX0_finestOf 1 = .ok (.istore 5, 2) := by decide +kernel
theorem dX0_finestOf_3 : decode cX0_finestOf 3 = .ok (.iconst 0, 1) := by decide +kernel
theorem dX0_finestOf_4 : decode cX0_finestOf 4 = .ok (.istore 6, 2) := by decide +kernel
theorem dX0_finestOf_6 : decode cX0_finestOf 6 = .ok (.iload 4, 2) := by decide +kernel
theorem dX0_finestOf_8 : decode cX0_finestOf 8 = .ok (.aload_n 3, 1) := by decide +kernel
theorem dX0_finestOf_9 : decode cX0_finestOf 9 = .ok (.arraylength, 1) := by decide +kernel
theorem dX0_finestOf_10 : decode cX0_finestOf 10 = .ok (.invokestatic 27, 3) := by decide +kernel
theorem dX0_finestOf_13 : decode cX0_finestOf 13 = .ok (.istore 7, 2) := by decide +kernel
theorem dX0_finestOf_15 : decode cX0_finestOf 15 = .ok (.iconst 0, 1) := by decide +kernel
theorem dX0_finestOf_16 : decode cX0_finestOf 16 = .ok (.istore 8, 2) := by decide +kernel
theorem dX0_finestOf_18 : decode cX0_finestOf 18 = .ok (.iload 8, 2) := by decide +kernel
theorem dX0_finestOf_20 : decode cX0_finestOf 20 = .ok (.iload 7, 2) := by decide +kernel
theorem dX0_finestOf_22 : decode cX0_finestOf 22 = .ok (.if_icmp .ge 101, 3) := by decide +kernel
theorem dX0_finestOf_25 : decode cX0_finestOf 25 = .ok (.iconst 0, 1) := by decide +kernel
theorem dX0_finestOf_26 : decode cX0_finestOf 26 = .ok (.istore 9, 2) := by decide +kernel
theorem dX0_finestOf_28 : decode cX0_finestOf 28 = .ok (.iload 9, 2) := by decide +kernel
theorem dX0_finestOf_30 : decode cX0_finestOf 30 = .ok (.iload 7, 2) := by decide +kernel
theorem dX0_finestOf_32 : decode cX0_finestOf 32 = .ok (.if_icmp .ge 85, 3) := by decide +kernel
theorem dX0_finestOf_35 : decode cX0_finestOf 35 = .ok (.iload 5, 2) := by decide +kernel
theorem dX0_finestOf_37 : decode cX0_finestOf 37 = .ok (.ifCond .eq 31, 3) := by decide +kernel
theorem dX0_finestOf_40 : decode cX0_finestOf 40 = .ok (.iload_n 1, 1) := by decide +kernel
theorem dX0_finestOf_41 : decode cX0_finestOf 41 = .ok (.aload_n 0, 1) := by decide +kernel
theorem dX0_finestOf_42 : decode cX0_finestOf 42 = .ok (.getfield 36, 3) := by decide +kernel
theorem dX0_finestOf_45 : decode cX0_finestOf 45 = .ok (.iconst 1, 1) := by decide +kernel
theorem dX0_finestOf_46 : decode cX0_finestOf 46 = .ok (.isub, 1) := by decide +kernel
theorem dX0_finestOf_47 : decode cX0_finestOf 47 = .ok (.if_icmp .ne 25, 3) := by decide +kernel
theorem dX0_finestOf_50 : decode cX0_finestOf 50 = .ok (.aload_n 3, 1) := by decide +kernel
theorem dX0_finestOf_51 : decode cX0_finestOf 51 = .ok (.iload 8, 2) := by decide +kernel
theorem dX0_finestOf_53 : decode cX0_finestOf 53 = .ok (.iaload, 1) := by decide +kernel
theorem dX0_finestOf_54 : decode cX0_finestOf 54 = .ok (.aload_n 3, 1) := by decide +kernel
theorem dX0_finestOf_55 : decode cX0_finestOf 55 = .ok (.iload 9, 2) := by decide +kernel
theorem dX0_finestOf_57 : decode cX0_finestOf 57 = .ok (.iaload, 1) := by decide +kernel
theorem dX0_finestOf_58 : decode cX0_finestOf 58 = .ok (.iload 5, 2) := by decide +kernel
theorem dX0_finestOf_60 : decode cX0_finestOf 60 = .ok (.iload 6, 2) := by decide +kernel
theorem dX0_finestOf_62 : decode cX0_finestOf 62 = .ok (.invokestatic 103, 3) := by decide +kernel
theorem dX0_finestOf_65 : decode cX0_finestOf 65 = .ok (.ifCond .eq 7, 3) := by decide +kernel
theorem dX0_finestOf_68 : decode cX0_finestOf 68 = .ok (.iconst 1, 1) := by decide +kernel
theorem dX0_finestOf_69 : decode cX0_finestOf 69 = .ok (.goto 4, 3) := by decide +kernel
theorem dX0_finestOf_72 : decode cX0_finestOf 72 = .ok (.iconst 0, 1) := by decide +kernel
theorem dX0_finestOf_73 : decode cX0_finestOf 73 = .ok (.istore 10, 2) := by decide +kernel
theorem dX0_finestOf_75 : decode cX0_finestOf 75 = .ok (.iload 10, 2) := by decide +kernel
theorem dX0_finestOf_77 : decode cX0_finestOf 77 = .ok (.ifCond .eq 34, 3) := by decide +kernel
theorem dX0_finestOf_80 : decode cX0_finestOf 80 = .ok (.aload_n 0, 1) := by decide +kernel
theorem dX0_finestOf_81 : decode cX0_finestOf 81 = .ok (.iload_n 1, 1) := by decide +kernel
theorem dX0_finestOf_82 : decode cX0_finestOf 82 = .ok (.aload_n 3, 1) := by decide +kernel
theorem dX0_finestOf_83 : decode cX0_finestOf 83 = .ok (.iload 8, 2) := by decide +kernel
theorem dX0_finestOf_85 : decode cX0_finestOf 85 = .ok (.iaload, 1) := by decide +kernel
theorem dX0_finestOf_86 : decode cX0_finestOf 86 = .ok (.aload_n 3, 1) := by decide +kernel
theorem dX0_finestOf_87 : decode cX0_finestOf 87 = .ok (.iload 9, 2) := by decide +kernel
theorem dX0_finestOf_89 : decode cX0_finestOf 89 = .ok (.iaload, 1) := by decide +kernel
theorem dX0_finestOf_90 : decode cX0_finestOf 90 = .ok (.invokevirtual 107, 3) := by decide +kernel
theorem dX0_finestOf_93 : decode cX0_finestOf 93 = .ok (.iload_n 2, 1) := by decide +kernel
theorem dX0_finestOf_94 : decode cX0_finestOf 94 = .ok (.i2l, 1) := by decide +kernel
theorem dX0_finestOf_95 : decode cX0_finestOf 95 = .ok (.lcmp, 1) := by decide +kernel
theorem dX0_finestOf_96 : decode cX0_finestOf 96 = .ok (.ifCond .gt 15, 3) := by decide +kernel
theorem dX0_finestOf_99 : decode cX0_finestOf 99 = .ok (.aload_n 3, 1) := by decide +kernel
theorem dX0_finestOf_100 : decode cX0_finestOf 100 = .ok (.iload 8, 2) := by decide +kernel
theorem dX0_finestOf_102 : decode cX0_finestOf 102 = .ok (.iaload, 1) := by decide +kernel
theorem dX0_finestOf_103 : decode cX0_finestOf 103 = .ok (.istore 5, 2) := by decide +kernel
theorem dX0_finestOf_105 : decode cX0_finestOf 105 = .ok (.aload_n 3, 1) := by decide +kernel
theorem dX0_finestOf_106 : decode cX0_finestOf 106 = .ok (.iload 9, 2) := by decide +kernel
theorem dX0_finestOf_108 : decode cX0_finestOf 108 = .ok (.iaload, 1) := by decide +kernel
theorem dX0_finestOf_109 : decode cX0_finestOf 109 = .ok (.istore 6, 2) := by decide +kernel
theorem dX0_finestOf_111 : decode cX0_finestOf 111 = .ok (.iinc 9 1, 3) := by decide +kernel
theorem dX0_finestOf_114 : decode cX0_finestOf 114 = .ok (.goto (-86), 3) := by decide +kernel
theorem dX0_finestOf_117 : decode cX0_finestOf 117 = .ok (.iinc 8 1, 3) := by decide +kernel
theorem dX0_finestOf_120 : decode cX0_finestOf 120 = .ok (.goto (-102), 3) := by decide +kernel
theorem dX0_finestOf_123 : decode cX0_finestOf 123 = .ok (.iload 5, 2) := by decide +kernel
theorem dX0_finestOf_125 : decode cX0_finestOf 125 = .ok (.ifCond .ne 7, 3) := by decide +kernel
theorem dX0_finestOf_128 : decode cX0_finestOf 128 = .ok (.iconst (-1), 1) := by decide +kernel
theorem dX0_finestOf_129 : decode cX0_finestOf 129 = .ok (.goto 11, 3) := by decide +kernel
theorem dX0_finestOf_132 : decode cX0_finestOf 132 = .ok (.iload 5, 2) := by decide +kernel
theorem dX0_finestOf_134 : decode cX0_finestOf 134 = .ok (.bipush 100, 2) := by decide +kernel
theorem dX0_finestOf_136 : decode cX0_finestOf 136 = .ok (.imul, 1) := by decide +kernel
theorem dX0_finestOf_137 : decode cX0_finestOf 137 = .ok (.iload 6, 2) := by decide +kernel
theorem dX0_finestOf_139 : decode cX0_finestOf 139 = .ok (.iadd, 1) := by decide +kernel
theorem dX0_finestOf_140 : decode cX0_finestOf 140 = .ok (.ireturn, 1) := by decide +kernel
theorem dX0_isFiner_0 : decode cX0_isFiner 0 = .ok (.iload_n 0, 1) := by decide +kernel
theorem dX0_isFiner_1 : decode cX0_isFiner 1 = .ok (.iload_n 1, 1) := by decide +kernel
theorem dX0_isFiner_2 : decode cX0_isFiner 2 = .ok (.imul, 1) := by decide +kernel
theorem dX0_isFiner_3 : decode cX0_isFiner 3 = .ok (.iload_n 2, 1) := by decide +kernel
theorem dX0_isFiner_4 : decode cX0_isFiner 4 = .ok (.iload_n 3, 1) := by decide +kernel
theorem dX0_isFiner_5 : decode cX0_isFiner 5 = .ok (.iadd, 1) := by decide +kernel
theorem dX0_isFiner_6 : decode cX0_isFiner 6 = .ok (.imul, 1) := by decide +kernel
theorem dX0_isFiner_7 : decode cX0_isFiner 7 = .ok (.iload_n 2, 1) := by decide +kernel
theorem dX0_isFiner_8 : decode cX0_isFiner 8 = .ok (.iload_n 3, 1) := by decide +kernel
theorem dX0_isFiner_9 : decode cX0_isFiner 9 = .ok (.imul, 1) := by decide +kernel
theorem dX0_isFiner_10 : decode cX0_isFiner 10 = .ok (.iload_n 0, 1) := by decide +kernel
theorem dX0_isFiner_11 : decode cX0_isFiner 11 = .ok (.iload_n 1, 1) := by decide +kernel
theorem dX0_isFiner_12 : decode cX0_isFiner 12 = .ok (.iadd, 1) := by decide +kernel
theorem dX0_isFiner_13 : decode cX0_isFiner 13 = .ok (.imul, 1) := by decide +kernel
theorem dX0_isFiner_14 : decode cX0_isFiner 14 = .ok (.if_icmp .le 7, 3) := by decide +kernel
theorem dX0_isFiner_17 : decode cX0_isFiner 17 = .ok (.iconst 1, 1) := by decide +kernel
theorem dX0_isFiner_18 : decode cX0_isFiner 18 = .ok (.goto 4, 3) := by decide +kernel
theorem dX0_isFiner_21 : decode cX0_isFiner 21 = .ok (.iconst 0, 1) := by decide +kernel
theorem dX0_isFiner_22 : decode cX0_isFiner 22 = .ok (.ireturn, 1) := by decide +kernel
theorem dX1_init_0 : decode cX1_init 0 = .ok (.aload_n 0, 1) := by decide +kernel
theorem dX1_init_1 : decode cX1_init 1 = .ok (.invokespecial 3, 3) := by decide +kernel
theorem dX1_init_4 : decode cX1_init 4 = .ok (.aload_n 0, 1) := by decide +kernel
theorem dX1_init_5 : decode cX1_init 5 = .ok (.bipush 40, 2) := by decide +kernel
theorem dX1_init_7 : decode cX1_init 7 = .ok (.newarray .int, 2) := by decide +kernel
theorem dX1_init_9 : decode cX1_init 9 = .ok (.putfield 9, 3) := by decide +kernel
theorem dX1_init_12 : decode cX1_init 12 = .ok (.aload_n 0, 1) := by decide +kernel
theorem dX1_init_13 : decode cX1_init 13 = .ok (.bipush 40, 2) := by decide +kernel
theorem dX1_init_15 : decode cX1_init 15 = .ok (.newarray .int, 2) := by decide +kernel
theorem dX1_init_17 : decode cX1_init 17 = .ok (.putfield 15, 3) := by decide +kernel
theorem dX1_init_20 : decode cX1_init 20 = .ok (.aload_n 0, 1) := by decide +kernel
theorem dX1_init_21 : decode cX1_init 21 = .ok (.bipush 40, 2) := by decide +kernel
theorem dX1_init_23 : decode cX1_init 23 = .ok (.newarray .int, 2) := by decide +kernel
theorem dX1_init_25 : decode cX1_init 25 = .ok (.putfield 18, 3) := by decide +kernel
theorem dX1_init_28 : decode cX1_init 28 = .ok (.aload_n 0, 1) := by decide +kernel
theorem dX1_init_29 : decode cX1_init 29 = .ok (.bipush 40, 2) := by decide +kernel
theorem dX1_init_31 : decode cX1_init 31 = .ok (.newarray .int, 2) := by decide +kernel
theorem dX1_init_33 : decode cX1_init 33 = .ok (.putfield 21, 3) := by decide +kernel
theorem dX1_init_36 : decode cX1_init 36 = .ok (.aload_n 0, 1) := by decide +kernel
theorem dX1_init_37 : decode cX1_init 37 = .ok (.bipush 40, 2) := by decide +kernel
theorem dX1_init_39 : decode cX1_init 39 = .ok (.newarray .int, 2) := by decide +kernel
theorem dX1_init_41 : decode cX1_init 41 = .ok (.putfield 24, 3) := by decide +kernel
theorem dX1_init_44 : decode cX1_init 44 = .ok (.return_, 1) := by decide +kernel
theorem dX1_isFull_0 : decode cX1_isFull 0 = .ok (.aload_n 0, 1) := by decide +kernel
theorem dX1_isFull_1 : decode cX1_isFull 1 = .ok (.getfield 27, 3) := by decide +kernel
theorem dX1_isFull_4 : decode cX1_isFull 4 = .ok (.bipush 40, 2) := by decide +kernel
theorem dX1_isFull_6 : decode cX1_isFull 6 = .ok (.if_icmp .lt 7, 3) := by decide +kernel
theorem dX1_isFull_9 : decode cX1_isFull 9 = .ok (.iconst 1, 1) := by decide +kernel
theorem dX1_isFull_10 : decode cX1_isFull 10 = .ok (.goto 4, 3) := by decide +kernel
theorem dX1_isFull_13 : decode cX1_isFull 13 = .ok (.iconst 0, 1) := by decide +kernel
theorem dX1_isFull_14 : decode cX1_isFull 14 = .ok (.ireturn, 1) := by decide +kernel
theorem dX1_add_0 : decode cX1_add 0 = .ok (.aload_n 0, 1) := by decide +kernel
theorem dX1_add_1 : decode cX1_add 1 = .ok (.invokevirtual 31, 3) := by decide +kernel
theorem dX1_add_4 : decode cX1_add 4 = .ok (.ifCond .eq 4, 3) := by decide +kernel
theorem dX1_add_7 : decode cX1_add 7 = .ok (.return_, 1) := by decide +kernel
theorem dX1_add_8 : decode cX1_add 8 = .ok (.aload_n 0, 1) := by decide +kernel
theorem dX1_add_9 : decode cX1_add 9 = .ok (.getfield 9, 3) := by decide +kernel
theorem dX1_add_12 : decode cX1_add 12 = .ok (.aload_n 0, 1) := by decide +kernel
theorem dX1_add_13 : decode cX1_add 13 = .ok (.getfield 27, 3) := by decide +kernel
theorem dX1_add_16 : decode cX1_add 16 = .ok (.iload_n 1, 1) := by decide +kernel
theorem dX1_add_17 : decode cX1_add 17 = .ok (.iastore, 1) := by decide +kernel
theorem dX1_add_18 : decode cX1_add 18 = .ok (.aload_n 0, 1) := by decide +kernel
theorem dX1_add_19 : decode cX1_add 19 = .ok (.getfield 15, 3) := by decide +kernel
theorem dX1_add_22 : decode cX1_add 22 = .ok (.aload_n 0, 1) := by decide +kernel
theorem dX1_add_23 : decode cX1_add 23 = .ok (.getfield 27, 3) := by decide +kernel
theorem dX1_add_26 : decode cX1_add 26 = .ok (.iload_n 2, 1) := by decide +kernel
theorem dX1_add_27 : decode cX1_add 27 = .ok (.iastore, 1) := by decide +kernel
theorem dX1_add_28 : decode cX1_add 28 = .ok (.aload_n 0, 1) := by decide +kernel
theorem dX1_add_29 : decode cX1_add 29 = .ok (.getfield 18, 3) := by decide +kernel
theorem dX1_add_32 : decode cX1_add 32 = .ok (.aload_n 0, 1) := by decide +kernel
theorem dX1_add_33 : decode cX1_add 33 = .ok (.getfield 27, 3) := by decide +kernel
theorem dX1_add_36 : decode cX1_add 36 = .ok (.iload_n 3, 1) := by decide +kernel
theorem dX1_add_37 : decode cX1_add 37 = .ok (.iastore, 1) := by decide +kernel
theorem dX1_add_38 : decode cX1_add 38 = .ok (.aload_n 0, 1) := by decide +kernel
theorem dX1_add_39 : decode cX1_add 39 = .ok (.getfield 21, 3) := by decide +kernel
theorem dX1_add_42 : decode cX1_add 42 = .ok (.aload_n 0, 1) := by decide +kernel
theorem dX1_add_43 : decode cX1_add 43 = .ok (.getfield 27, 3) := by decide +kernel
theorem dX1_add_46 : decode cX1_add 46 = .ok (.iload 4, 2) := by decide +kernel
theorem dX1_add_48 : decode cX1_add 48 = .ok (.iastore, 1) := by decide +kernel
theorem dX1_add_49 : decode cX1_add 49 = .ok (.aload_n 0, 1) := by decide +kernel
theorem dX1_add_50 : decode cX1_add 50 = .ok (.getfield 24, 3) := by decide +kernel
theorem dX1_add_53 : decode cX1_add 53 = .ok (.aload_n 0, 1) := by decide +kernel
theorem dX1_add_54 : decode cX1_add 54 = .ok (.getfield 27, 3) := by decide +kernel
theorem dX1_add_57 : decode cX1_add 57 = .ok (.iload 5, 2) := by decide +kernel
theorem dX1_add_59 : decode cX1_add 59 = .ok (.iastore, 1) := by decide +kernel
theorem dX1_add_60 : decode cX1_add 60 = .ok (.aload_n 0, 1) := by decide +kernel
theorem dX1_add_61 : decode cX1_add 61 = .ok (.dup, 1) := by decide +kernel
theorem dX1_add_62 : decode cX1_add 62 = .ok (.getfield 27, 3) := by decide +kernel
theorem dX1_add_65 : decode cX1_add 65 = .ok (.iconst 1, 1) := by decide +kernel
theorem dX1_add_66 : decode cX1_add 66 = .ok (.iadd, 1) := by decide +kernel
theorem dX1_add_67 : decode cX1_add 67 = .ok (.putfield 27, 3) := by decide +kernel
theorem dX1_add_70 : decode cX1_add 70 = .ok (.return_, 1) := by decide +kernel
theorem dX1_numberOn_0 : decode cX1_numberOn 0 = .ok (.aload_n 0, 1) := by decide +kernel
theorem dX1_numberOn_1 : decode cX1_numberOn 1 = .ok (.getfield 27, 3) := by decide +kernel
theorem dX1_numberOn_4 : decode cX1_numberOn 4 = .ok (.iconst 1, 1) := by decide +kernel
theorem dX1_numberOn_5 : decode cX1_numberOn 5 = .ok (.isub, 1) := by decide +kernel
theorem dX1_numberOn_6 : decode cX1_numberOn 6 = .ok (.istore 5, 2) := by decide +kernel
theorem dX1_numberOn_8 : decode cX1_numberOn 8 = .ok (.iload 5, 2) := by decide +kernel
theorem dX1_numberOn_10 : decode cX1_numberOn 10 = .ok (.ifCond .lt 62, 3) := by decide +kernel
theorem dX1_numberOn_13 : decode cX1_numberOn 13 = .ok (.aload_n 0, 1) := by decide +kernel
theorem dX1_numberOn_14 : decode cX1_numberOn 14 = .ok (.getfield 24, 3) := by decide +kernel
theorem dX1_numberOn_17 : decode cX1_numberOn 17 = .ok (.iload 5, 2) := by decide +kernel
theorem dX1_numberOn_19 : decode cX1_numberOn 19 = .ok (.iaload, 1) := by decide +kernel
theorem dX1_numberOn_20 : decode cX1_numberOn 20 = .ok (.iload_n 1, 1) := by decide +kernel
theorem dX1_numberOn_21 : decode cX1_numberOn 21 = .ok (.if_icmp .gt 45, 3) := by decide +kernel
theorem dX1_numberOn_24 : decode cX1_numberOn 24 = .ok (.aload_n 0, 1) := by decide +kernel
theorem dX1_numberOn_25 : decode cX1_numberOn 25 = .ok (.getfield 9, 3) := by decide +kernel
theorem dX1_numberOn_28 : decode cX1_numberOn 28 = .ok (.iload 5, 2) := by decide +kernel
theorem dX1_numberOn_30 : decode cX1_numberOn 30 = .ok (.iaload, 1) := by decide +kernel
theorem dX1_numberOn_31 : decode cX1_numberOn 31 = .ok (.iload_n 2, 1) := by decide +kernel
theorem dX1_numberOn_32 : decode cX1_numberOn 32 = .ok (.if_icmp .ne 34, 3) := by decide +kernel
theorem dX1_numberOn_35 : decode cX1_numberOn 35 = .ok (.aload_n 0, 1) := by decide +kernel
theorem dX1_numberOn_36 : decode cX1_numberOn 36 = .ok (.getfield 15, 3) := by decide +kernel
theorem dX1_numberOn_39 : decode cX1_numberOn 39 = .ok (.iload 5, 2) := by decide +kernel
theorem dX1_numberOn_41 : decode cX1_numberOn 41 = .ok (.iaload, 1) := by decide +kernel
theorem dX1_numberOn_42 : decode cX1_numberOn 42 = .ok (.iload_n 3, 1) := by decide +kernel
theorem dX1_numberOn_43 : decode cX1_numberOn 43 = .ok (.if_icmp .ne 23, 3) := by decide +kernel
theorem dX1_numberOn_46 : decode cX1_numberOn 46 = .ok (.aload_n 0, 1) := by decide +kernel
theorem dX1_numberOn_47 : decode cX1_numberOn 47 = .ok (.getfield 18, 3) := by decide +kernel
theorem dX1_numberOn_50 : decode cX1_numberOn 50 = .ok (.iload 5, 2) := by decide +kernel
theorem dX1_numberOn_52 : decode cX1_numberOn 52 = .ok (.iaload, 1) := by decide +kernel
theorem dX1_numberOn_53 : decode cX1_numberOn 53 = .ok (.iload 4, 2) := by decide +kernel
theorem dX1_numberOn_55 : decode cX1_numberOn 55 = .ok (.if_icmp .ne 11, 3) := by decide +kernel
theorem dX1_numberOn_58 : decode cX1_numberOn 58 = .ok (.aload_n 0, 1) := by decide +kernel
theorem dX1_numberOn_59 : decode cX1_numberOn 59 = .ok (.getfield 21, 3) := by decide +kernel
theorem dX1_numberOn_62 : decode cX1_numberOn 62 = .ok (.iload 5, 2) := by decide +kernel
theorem dX1_numberOn_64 : decode cX1_numberOn 64 = .ok (.iaload, 1) := by decide +kernel
theorem dX1_numberOn_65 : decode cX1_numberOn 65 = .ok (.ireturn, 1) := by decide +kernel
theorem dX1_numberOn_66 : decode cX1_numberOn 66 = .ok (.iinc 5 (-1), 3) := by decide +kernel
theorem dX1_numberOn_69 : decode cX1_numberOn 69 = .ok (.goto (-61), 3) := by decide +kernel
theorem dX1_numberOn_72 : decode cX1_numberOn 72 = .ok (.ldc 35, 2) := by decide +kernel
theorem dX1_numberOn_74 : decode cX1_numberOn 74 = .ok (.ireturn, 1) := by decide +kernel
theorem dX2_init_0 : decode cX2_init 0 = .ok (.aload_n 0, 1) := by decide +kernel
theorem dX2_init_1 : decode cX2_init 1 = .ok (.invokespecial 3, 3) := by decide +kernel
theorem dX2_init_4 : decode cX2_init 4 = .ok (.aload_n 0, 1) := by decide +kernel
theorem dX2_init_5 : decode cX2_init 5 = .ok (.sipush 200, 3) := by decide +kernel
theorem dX2_init_8 : decode cX2_init 8 = .ok (.newarray .int, 2) := by decide +kernel
theorem dX2_init_10 : decode cX2_init 10 = .ok (.putfield 9, 3) := by decide +kernel
theorem dX2_init_13 : decode cX2_init 13 = .ok (.aload_n 0, 1) := by decide +kernel
theorem dX2_init_14 : decode cX2_init 14 = .ok (.sipush 240, 3) := by decide +kernel
theorem dX2_init_17 : decode cX2_init 17 = .ok (.newarray .int, 2) := by decide +kernel
theorem dX2_init_19 : decode cX2_init 19 = .ok (.putfield 15, 3) := by decide +kernel
theorem dX2_init_22 : decode cX2_init 22 = .ok (.aload_n 0, 1) := by decide +kernel
theorem dX2_init_23 : decode cX2_init 23 = .ok (.bipush 60, 2) := by decide +kernel
theorem dX2_init_25 : decode cX2_init 25 = .ok (.newarray .int, 2) := by decide +kernel
theorem dX2_init_27 : decode cX2_init 27 = .ok (.putfield 18, 3) := by decide +kernel
theorem dX2_init_30 : decode cX2_init 30 = .ok (.aload_n 0, 1) := by decide +kernel
theorem dX2_init_31 : decode cX2_init 31 = .ok (.bipush 12, 2) := by decide +kernel
theorem dX2_init_33 : decode cX2_init 33 = .ok (.newarray .int, 2) := by decide +kernel
theorem dX2_init_35 : decode cX2_init 35 = .ok (.putfield 21, 3) := by decide +kernel
theorem dX2_init_38 : decode cX2_init 38 = .ok (.return_, 1) := by decide +kernel
theorem dX2_startOver_0 : decode cX2_startOver 0 = .ok (.aload_n 0, 1) := by decide +kernel
theorem dX2_startOver_1 : decode cX2_startOver 1 = .ok (.getfield 9, 3) := by decide +kernel
theorem dX2_startOver_4 : decode cX2_startOver 4 = .ok (.iconst 0, 1) := by decide +kernel
theorem dX2_startOver_5 : decode cX2_startOver 5 = .ok (.invokestatic 24, 3) := by decide +kernel
theorem dX2_startOver_8 : decode cX2_startOver 8 = .ok (.aload_n 0, 1) := by decide +kernel
theorem dX2_startOver_9 : decode cX2_startOver 9 = .ok (.iconst 0, 1) := by decide +kernel
theorem dX2_startOver_10 : decode cX2_startOver 10 = .ok (.putfield 30, 3) := by decide +kernel
theorem dX2_startOver_13 : decode cX2_startOver 13 = .ok (.return_, 1) := by decide +kernel
theorem dX2_add_0 : decode cX2_add 0 = .ok (.iload_n 3, 1) := by decide +kernel
theorem dX2_add_1 : decode cX2_add 1 = .ok (.ifCond .eq 13, 3) := by decide +kernel
theorem dX2_add_4 : decode cX2_add 4 = .ok (.aload_n 0, 1) := by decide +kernel
theorem dX2_add_5 : decode cX2_add 5 = .ok (.getfield 30, 3) := by decide +kernel
theorem dX2_add_8 : decode cX2_add 8 = .ok (.bipush 60, 2) := by decide +kernel
theorem dX2_add_10 : decode cX2_add 10 = .ok (.if_icmp .lt 4, 3) := by decide +kernel
theorem dX2_add_13 : decode cX2_add 13 = .ok (.return_, 1) := by decide +kernel
theorem dX2_add_14 : decode cX2_add 14 = .ok (.iconst 0, 1) := by decide +kernel
theorem dX2_add_15 : decode cX2_add 15 = .ok (.istore 4, 2) := by decide +kernel
theorem dX2_add_17 : decode cX2_add 17 = .ok (.iload 4, 2) := by decide +kernel
theorem dX2_add_19 : decode cX2_add 19 = .ok (.aload_n 1, 1) := by decide +kernel
theorem dX2_add_20 : decode cX2_add 20 = .ok (.getfield 34, 3) := by decide +kernel
theorem dX2_add_23 : decode cX2_add 23 = .ok (.if_icmp .ge 90, 3) := by decide +kernel
theorem dX2_add_26 : decode cX2_add 26 = .ok (.aload_n 1, 1) := by decide +kernel
theorem dX2_add_27 : decode cX2_add 27 = .ok (.getfield 39, 3) := by decide +kernel
theorem dX2_add_30 : decode cX2_add 30 = .ok (.iload 4, 2) := by decide +kernel
theorem dX2_add_32 : decode cX2_add 32 = .ok (.iaload, 1) := by decide +kernel
theorem dX2_add_33 : decode cX2_add 33 = .ok (.bipush 40, 2) := by decide +kernel
theorem dX2_add_35 : decode cX2_add 35 = .ok (.imul, 1) := by decide +kernel
theorem dX2_add_36 : decode cX2_add 36 = .ok (.aload_n 1, 1) := by decide +kernel
theorem dX2_add_37 : decode cX2_add 37 = .ok (.iload_n 2, 1) := by decide +kernel
theorem dX2_add_38 : decode cX2_add 38 = .ok (.iload 4, 2) := by decide +kernel
theorem dX2_add_40 : decode cX2_add 40 = .ok (.invokevirtual 42, 3) := by decide +kernel
theorem dX2_add_43 : decode cX2_add 43 = .ok (.iadd, 1) := by decide +kernel
theorem dX2_add_44 : decode cX2_add 44 = .ok (.istore 5, 2) := by decide +kernel
theorem dX2_add_46 : decode cX2_add 46 = .ok (.iload 5, 2) := by decide +kernel
theorem dX2_add_48 : decode cX2_add 48 = .ok (.ifCond .lt 39, 3) := by decide +kernel
theorem dX2_add_51 : decode cX2_add 51 = .ok (.iload 5, 2) := by decide +kernel
theorem dX2_add_53 : decode cX2_add 53 = .ok (.aload_n 0, 1) := by decide +kernel
theorem dX2_add_54 : decode cX2_add 54 = .ok (.getfield 9, 3) := by decide +kernel
theorem dX2_add_57 : decode cX2_add 57 = .ok (.arraylength, 1) := by decide +kernel
theorem dX2_add_58 : decode cX2_add 58 = .ok (.if_icmp .ge 29, 3) := by decide +kernel
theorem dX2_add_61 : decode cX2_add 61 = .ok (.aload_n 0, 1) := by decide +kernel
theorem dX2_add_62 : decode cX2_add 62 = .ok (.getfield 9, 3) := by decide +kernel
theorem dX2_add_65 : decode cX2_add 65 = .ok (.iload 5, 2) := by decide +kernel
theorem dX2_add_67 : decode cX2_add 67 = .ok (.iload_n 3, 1) := by decide +kernel
theorem dX2_add_68 : decode cX2_add 68 = .ok (.ifCond .eq 17, 3) := by decide +kernel
theorem dX2_add_71 : decode cX2_add 71 = .ok (.aload_n 0, 1) := by decide +kernel
theorem dX2_add_72 : decode cX2_add 72 = .ok (.getfield 9, 3) := by decide +kernel
theorem dX2_add_75 : decode cX2_add 75 = .ok (.iload 5, 2) := by decide +kernel
theorem dX2_add_77 : decode cX2_add 77 = .ok (.iaload, 1) := by decide +kernel
theorem dX2_add_78 : decode cX2_add 78 = .ok (.iconst 1, 1) := by decide +kernel
theorem dX2_add_79 : decode cX2_add 79 = .ok (.invokestatic 46, 3) := by decide +kernel
theorem dX2_add_82 : decode cX2_add 82 = .ok (.goto 4, 3) := by decide +kernel
theorem dX2_add_85 : decode cX2_add 85 = .ok (.iconst 2, 1) := by decide +kernel
theorem dX2_add_86 : decode cX2_add 86 = .ok (.iastore, 1) := by decide +kernel
theorem dX2_add_87 : decode cX2_add 87 = .ok (.iload_n 3, 1) := by decide +kernel
theorem dX2_add_88 : decode cX2_add 88 = .ok (.ifCond .eq 19, 3) := by decide +kernel
theorem dX2_add_91 : decode cX2_add 91 = .ok (.aload_n 0, 1) := by decide +kernel
theorem dX2_add_92 : decode cX2_add 92 = .ok (.getfield 15, 3) := by decide +kernel
theorem dX2_add_95 : decode cX2_add 95 = .ok (.aload_n 0, 1) := by decide +kernel
theorem dX2_add_96 : decode cX2_add 96 = .ok (.getfield 30, 3) := by decide +kernel
theorem dX2_add_99 : decode cX2_add 99 = .ok (.iconst 4, 1) := by decide +kernel
theorem dX2_add_100 : decode cX2_add 100 = .ok (.imul, 1) := by decide +kernel
theorem dX2_add_101 : decode cX2_add 101 = .ok (.iload 4, 2) := by decide +kernel
theorem dX2_add_103 : decode cX2_add 103 = .ok (.iadd, 1) := by decide +kernel
theorem dX2_add_104 : decode cX2_add 104 = .ok (.iload 5, 2) := by decide +kernel
theorem dX2_add_106 : decode cX2_add 106 = .ok (.iastore, 1) := by decide +kernel
theorem dX2_add_107 : decode cX2_add 107 = .ok (.iinc 4 1, 3) := by decide +kernel
theorem dX2_add_110 : decode cX2_add 110 = .ok (.goto (-93), 3) := by decide +kernel
theorem dX2_add_113 : decode cX2_add 113 = .ok (.iload_n 3, 1) := by decide +kernel
theorem dX2_add_114 : decode cX2_add 114 = .ok (.ifCond .eq 13, 3) := by decide +kernel
theorem dX2_add_117 : decode cX2_add 117 = .ok (.aload_n 0, 1) := by decide +kernel
theorem dX2_add_118 : decode cX2_add 118 = .ok (.dup, 1) := by decide +kernel
theorem dX2_add_119 : decode cX2_add 119 = .ok (.getfield 30, 3) := by decide +kernel
theorem dX2_add_122 : decode cX2_add 122 = .ok (.iconst 1, 1) := by decide +kernel
theorem dX2_add_123 : decode cX2_add 123 = .ok (.iadd, 1) := by decide +kernel
theorem dX2_add_124 : decode cX2_add 124 = .ok (.putfield 30, 3) := by decide +kernel
theorem dX2_add_127 : decode cX2_add 127 = .ok (.return_, 1) := by decide +kernel
theorem dX2_look_0 : decode cX2_look 0 = .ok (.aload_n 0, 1) := by decide +kernel
theorem dX2_look_1 : decode cX2_look 1 = .ok (.invokevirtual 51, 3) := by decide +kernel
theorem dX2_look_4 : decode cX2_look 4 = .ok (.ifCond .eq 11, 3) := by decide +kernel
theorem dX2_look_7 : decode cX2_look 7 = .ok (.aload_n 0, 1) := by decide +kernel
theorem dX2_look_8 : decode cX2_look 8 = .ok (.iload_n 1, 1) := by decide +kernel
theorem dX2_look_9 : decode cX2_look 9 = .ok (.invokevirtual 55, 3) := by decide +kernel
theorem dX2_look_12 : decode cX2_look 12 = .ok (.ifCond .ne 5, 3) := by decide +kernel
theorem dX2_look_15 : decode cX2_look 15 = .ok (.iconst 0, 1) := by decide +kernel
theorem dX2_look_16 : decode cX2_look 16 = .ok (.ireturn, 1) := by decide +kernel
theorem dX2_look_17 : decode cX2_look 17 = .ok (.aload_n 0, 1) := by decide +kernel
theorem dX2_look_18 : decode cX2_look 18 = .ok (.aload_n 0, 1) := by decide +kernel
theorem dX2_look_19 : decode cX2_look 19 = .ok (.getfield 59, 3) := by decide +kernel
theorem dX2_look_22 : decode cX2_look 22 = .ok (.iconst 1, 1) := by decide +kernel
theorem dX2_look_23 : decode cX2_look 23 = .ok (.iadd, 1) := by decide +kernel
theorem dX2_look_24 : decode cX2_look 24 = .ok (.putfield 62, 3) := by decide +kernel
theorem dX2_look_27 : decode cX2_look 27 = .ok (.aload_n 0, 1) := by decide +kernel
theorem dX2_look_28 : decode cX2_look 28 = .ok (.iconst 0, 1) := by decide +kernel
theorem dX2_look_29 : decode cX2_look 29 = .ok (.putfield 65, 3) := by decide +kernel
theorem dX2_look_32 : decode cX2_look 32 = .ok (.aload_n 0, 1) := by decide +kernel
theorem dX2_look_33 : decode cX2_look 33 = .ok (.iconst 0, 1) := by decide +kernel
theorem dX2_look_34 : decode cX2_look 34 = .ok (.putfield 68, 3) := by decide +kernel
theorem dX2_look_37 : decode cX2_look 37 = .ok (.iconst 1, 1) := by decide +kernel
theorem dX2_look_38 : decode cX2_look 38 = .ok (.aload_n 0, 1) := by decide +kernel
theorem dX2_look_39 : decode cX2_look 39 = .ok (.getfield 59, 3) := by decide +kernel
theorem dX2_look_42 : decode cX2_look 42 = .ok (.ishl, 1) := by decide +kernel
theorem dX2_look_43 : decode cX2_look 43 = .ok (.iconst 1, 1) := by decide +kernel
theorem dX2_look_44 : decode cX2_look 44 = .ok (.isub, 1) := by decide +kernel
theorem dX2_look_45 : decode cX2_look 45 = .ok (.istore_n 2, 1) := by decide +kernel
theorem dX2_look_46 : decode cX2_look 46 = .ok (.iload_n 2, 1) := by decide +kernel
theorem dX2_look_47 : decode cX2_look 47 = .ok (.ifCond .lt 63, 3) := by decide +kernel
theorem dX2_look_50 : decode cX2_look 50 = .ok (.iload_n 2, 1) := by decide +kernel
theorem dX2_look_51 : decode cX2_look 51 = .ok (.invokestatic 71, 3) := by decide +kernel
theorem dX2_look_54 : decode cX2_look 54 = .ok (.istore_n 3, 1) := by decide +kernel
theorem dX2_look_55 : decode cX2_look 55 = .ok (.iload_n 3, 1) := by decide +kernel
theorem dX2_look_56 : decode cX2_look 56 = .ok (.aload_n 0, 1) := by decide +kernel
theorem dX2_look_57 : decode cX2_look 57 = .ok (.getfield 62, 3) := by decide +kernel
theorem dX2_look_60 : decode cX2_look 60 = .ok (.if_icmp .gt 44, 3) := by decide +kernel
theorem dX2_look_63 : decode cX2_look 63 = .ok (.aload_n 0, 1) := by decide +kernel
theorem dX2_look_64 : decode cX2_look 64 = .ok (.iload_n 2, 1) := by decide +kernel
theorem dX2_look_65 : decode cX2_look 65 = .ok (.invokevirtual 77, 3) := by decide +kernel
theorem dX2_look_68 : decode cX2_look 68 = .ok (.ifCond .eq 36, 3) := by decide +kernel
theorem dX2_look_71 : decode cX2_look 71 = .ok (.iload_n 3, 1) := by decide +kernel
theorem dX2_look_72 : decode cX2_look 72 = .ok (.aload_n 0, 1) := by decide +kernel
theorem dX2_look_73 : decode cX2_look 73 = .ok (.getfield 62, 3) := by decide +kernel
theorem dX2_look_76 : decode cX2_look 76 = .ok (.if_icmp .ge 18, 3) := by decide +kernel
theorem dX2_look_79 : decode cX2_look 79 = .ok (.aload_n 0, 1) := by decide +kernel
theorem dX2_look_80 : decode cX2_look 80 = .ok (.iload_n 3, 1) := by decide +kernel
theorem dX2_look_81 : decode cX2_look 81 = .ok (.putfield 62, 3) := by decide +kernel
theorem dX2_look_84 : decode cX2_look 84 = .ok (.aload_n 0, 1) := by decide +kernel
theorem dX2_look_85 : decode cX2_look 85 = .ok (.iconst 0, 1) := by decide +kernel
theorem dX2_look_86 : decode cX2_look 86 = .ok (.putfield 65, 3) := by decide +kernel
theorem dX2_look_89 : decode cX2_look 89 = .ok (.aload_n 0, 1) := by decide +kernel
theorem dX2_look_90 : decode cX2_look 90 = .ok (.iload_n 2, 1) := by decide +kernel
theorem dX2_look_91 : decode cX2_look 91 = .ok (.putfield 68, 3) := by decide +kernel
theorem dX2_look_94 : decode cX2_look 94 = .ok (.aload_n 0, 1) := by decide +kernel
theorem dX2_look_95 : decode cX2_look 95 = .ok (.dup, 1) := by decide +kernel
theorem dX2_look_96 : decode cX2_look 96 = .ok (.getfield 65, 3) := by decide +kernel
theorem dX2_look_99 : decode cX2_look 99 = .ok (.iconst 1, 1) := by decide +kernel
theorem dX2_look_100 : decode cX2_look 100 = .ok (.iadd, 1) := by decide +kernel
theorem dX2_look_101 : decode cX2_look 101 = .ok (.putfield 65, 3) := by decide +kernel
theorem dX2_look_104 : decode cX2_look 104 = .ok (.iinc 2 (-1), 3) := by decide +kernel
theorem dX2_look_107 : decode cX2_look 107 = .ok (.goto (-61), 3) := by decide +kernel
theorem dX2_look_110 : decode cX2_look 110 = .ok (.aload_n 0, 1) := by decide +kernel
theorem dX2_look_111 : decode cX2_look 111 = .ok (.getfield 65, 3) := by decide +kernel
theorem dX2_look_114 : decode cX2_look 114 = .ok (.ifCond .le 7, 3) := by decide +kernel
theorem dX2_look_117 : decode cX2_look 117 = .ok (.iconst 1, 1) := by decide +kernel
theorem dX2_look_118 : decode cX2_look 118 = .ok (.goto 4, 3) := by decide +kernel
theorem dX2_look_121 : decode cX2_look 121 = .ok (.iconst 0, 1) := by decide +kernel
theorem dX2_look_122 : decode cX2_look 122 = .ok (.ireturn, 1) := by decide +kernel
theorem dX2_findCandidates_0 : decode cX2_findCandidates 0 = .ok (.aload_n 0, 1) := by decide +kernel
theorem dX2_findCandidates_1 : decode cX2_findCandidates 1 = .ok (.iconst 0, 1) := by decide +kernel
theorem dX2_findCandidates_2 : decode cX2_findCandidates 2 = .ok (.putfield 59, 3) := by decide +kernel
theorem dX2_findCandidates_5 : decode cX2_findCandidates 5 = .ok (.iconst 0, 1) := by decide +kernel
theorem dX2_findCandidates_6 : decode cX2_findCandidates 6 = .ok (.istore_n 1, 1) := by decide +kernel
theorem dX2_findCandidates_7 : decode cX2_findCandidates 7 = .ok (.iload_n 1, 1) := by decide +kernel
theorem dX2_findCandidates_8 : decode cX2_findCandidates 8 = .ok (.aload_n 0, 1) := by decide +kernel
theorem dX2_findCandidates_9 : decode cX2_findCandidates 9 = .ok (.getfield 9, 3) := by decide +kernel
theorem dX2_findCandidates_12 : decode cX2_findCandidates 12 = .ok (.arraylength, 1) := by decide +kernel
theorem dX2_findCandidates_13 : decode cX2_findCandidates 13 = .ok (.if_icmp .ge 50, 3) := by decide +kernel
theorem dX2_findCandidates_16 : decode cX2_findCandidates 16 = .ok (.aload_n 0, 1) := by decide +kernel
theorem dX2_findCandidates_17 : decode cX2_findCandidates 17 = .ok (.getfield 9, 3) := by decide +kernel
theorem dX2_findCandidates_20 : decode cX2_findCandidates 20 = .ok (.iload_n 1, 1) := by decide +kernel
theorem dX2_findCandidates_21 : decode cX2_findCandidates 21 = .ok (.iaload, 1) := by decide +kernel
theorem dX2_findCandidates_22 : decode cX2_findCandidates 22 = .ok (.iconst 1, 1) := by decide +kernel
theorem dX2_findCandidates_23 : decode cX2_findCandidates 23 = .ok (.if_icmp .ne 34, 3) := by decide +kernel
theorem dX2_findCandidates_26 : decode cX2_findCandidates 26 = .ok (.aload_n 0, 1) := by decide +kernel
theorem dX2_findCandidates_27 : decode cX2_findCandidates 27 = .ok (.getfield 59, 3) := by decide +kernel
theorem dX2_findCandidates_30 : decode cX2_findCandidates 30 = .ok (.bipush 12, 2) := by decide +kernel
theorem dX2_findCandidates_32 : decode cX2_findCandidates 32 = .ok (.if_icmp .lt 5, 3) := by decide +kernel
theorem dX2_findCandidates_35 : decode cX2_findCandidates 35 = .ok (.iconst 0, 1) := by decide +kernel
theorem dX2_findCandidates_36 : decode cX2_findCandidates 36 = .ok (.ireturn, 1) := by decide +kernel
theorem dX2_findCandidates_37 : decode cX2_findCandidates 37 = .ok (.aload_n 0, 1) := by decide +kernel
theorem dX2_findCandidates_38 : decode cX2_findCandidates 38 = .ok (.getfield 21, 3) := by decide +kernel
theorem dX2_findCandidates_41 : decode cX2_findCandidates 41 = .ok (.aload_n 0, 1) := by decide +kernel
theorem dX2_findCandidates_42 : decode cX2_findCandidates 42 = .ok (.getfield 59, 3) := by decide +kernel
theorem dX2_findCandidates_45 : decode cX2_findCandidates 45 = .ok (.iload_n 1, 1) := by decide +kernel
theorem dX2_findCandidates_46 : decode cX2_findCandidates 46 = .ok (.iastore, 1) := by decide +kernel
theorem dX2_findCandidates_47 : decode cX2_findCandidates 47 = .ok (.aload_n 0, 1) := by decide +kernel
theorem dX2_findCandidates_48 : decode cX2_findCandidates 48 = .ok (.dup, 1) := by decide +kernel
theorem dX2_findCandidates_49 : decode cX2_findCandidates 49 = .ok (.getfield 59, 3) := by decide +kernel
theorem dX2_findCandidates_52 : decode cX2_findCandidates 52 = .ok (.iconst 1, 1) := by decide +kernel
theorem dX2_findCandidates_53 : decode cX2_findCandidates 53 = .ok (.iadd, 1) := by decide +kernel
theorem dX2_findCandidates_54 : decode cX2_findCandidates 54 = .ok (.putfield 59, 3) := by decide +kernel
theorem dX2_findCandidates_57 : decode cX2_findCandidates 57 = .ok (.iinc 1 1, 3) := by decide +kernel
theorem dX2_findCandidates_60 : decode cX2_findCandidates 60 = .ok (.goto (-53), 3) := by decide +kernel
theorem dX2_findCandidates_63 : decode cX2_findCandidates 63 = .ok (.iconst 1, 1) := by decide +kernel
theorem dX2_findCandidates_64 : decode cX2_findCandidates 64 = .ok (.ireturn, 1) := by decide +kernel
theorem dX2_weighBadOnes_0 : decode cX2_weighBadOnes 0 = .ok (.iconst 0, 1) := by decide +kernel
theorem dX2_weighBadOnes_1 : decode cX2_weighBadOnes 1 = .ok (.istore_n 2, 1) := by decide +kernel
theorem dX2_weighBadOnes_2 : decode cX2_weighBadOnes 2 = .ok (.iload_n 2, 1) := by decide +kernel
theorem dX2_weighBadOnes_3 : decode cX2_weighBadOnes 3 = .ok (.aload_n 0, 1) := by decide +kernel
theorem dX2_weighBadOnes_4 : decode cX2_weighBadOnes 4 = .ok (.getfield 30, 3) := by decide +kernel
theorem dX2_weighBadOnes_7 : decode cX2_weighBadOnes 7 = .ok (.if_icmp .ge 63, 3) := by decide +kernel
theorem dX2_weighBadOnes_10 : decode cX2_weighBadOnes 10 = .ok (.iconst 0, 1) := by decide +kernel
theorem dX2_weighBadOnes_11 : decode cX2_weighBadOnes 11 = .ok (.istore_n 3, 1) := by decide +kernel
theorem dX2_weighBadOnes_12 : decode cX2_weighBadOnes 12 = .ok (.iconst 0, 1) := by decide +kernel
theorem dX2_weighBadOnes_13 : decode cX2_weighBadOnes 13 = .ok (.istore 4, 2) := by decide +kernel
theorem dX2_weighBadOnes_15 : decode cX2_weighBadOnes 15 = .ok (.iload 4, 2) := by decide +kernel
theorem dX2_weighBadOnes_17 : decode cX2_weighBadOnes 17 = .ok (.iload_n 1, 1) := by decide +kernel
theorem dX2_weighBadOnes_18 : decode cX2_weighBadOnes 18 = .ok (.if_icmp .ge 33, 3) := by decide +kernel
theorem dX2_weighBadOnes_21 : decode cX2_weighBadOnes 21 = .ok (.iload 4, 2) := by decide +kernel
theorem dX2_weighBadOnes_23 : decode cX2_weighBadOnes 23 = .ok (.iconst 4, 1) := by decide +kernel
theorem dX2_weighBadOnes_24 : decode cX2_weighBadOnes 24 = .ok (.if_icmp .ge 27, 3) := by decide +kernel
theorem dX2_weighBadOnes_27 : decode cX2_weighBadOnes 27 = .ok (.iload_n 3, 1) := by decide +kernel
theorem dX2_weighBadOnes_28 : decode cX2_weighBadOnes 28 = .ok (.aload_n 0, 1) := by decide +kernel
theorem dX2_weighBadOnes_29 : decode cX2_weighBadOnes 29 = .ok (.aload_n 0, 1) := by decide +kernel
theorem dX2_weighBadOnes_30 : decode cX2_weighBadOnes 30 = .ok (.getfield 15, 3) := by decide +kernel
theorem dX2_weighBadOnes_33 : decode cX2_weighBadOnes 33 = .ok (.iload_n 2, 1) := by decide +kernel
theorem dX2_weighBadOnes_34 : decode cX2_weighBadOnes 34 = .ok (.iconst 4, 1) := by decide +kernel
theorem dX2_weighBadOnes_35 : decode cX2_weighBadOnes 35 = .ok (.imul, 1) := by decide +kernel
theorem dX2_weighBadOnes_36 : decode cX2_weighBadOnes 36 = .ok (.iload 4, 2) := by decide +kernel
theorem dX2_weighBadOnes_38 : decode cX2_weighBadOnes 38 = .ok (.iadd, 1) := by decide +kernel
theorem dX2_weighBadOnes_39 : decode cX2_weighBadOnes 39 = .ok (.iaload, 1) := by decide +kernel
theorem dX2_weighBadOnes_40 : decode cX2_weighBadOnes 40 = .ok (.invokevirtual 80, 3) := by decide +kernel
theorem dX2_weighBadOnes_43 : decode cX2_weighBadOnes 43 = .ok (.ior, 1) := by decide +kernel
theorem dX2_weighBadOnes_44 : decode cX2_weighBadOnes 44 = .ok (.istore_n 3, 1) := by decide +kernel
theorem dX2_weighBadOnes_45 : decode cX2_weighBadOnes 45 = .ok (.iinc 4 1, 3) := by decide +kernel
theorem dX2_weighBadOnes_48 : decode cX2_weighBadOnes 48 = .ok (.goto (-33), 3) := by decide +kernel
theorem dX2_weighBadOnes_51 : decode cX2_weighBadOnes 51 = .ok (.iload_n 3, 1) := by decide +kernel
theorem dX2_weighBadOnes_52 : decode cX2_weighBadOnes 52 = .ok (.ifCond .ne 5, 3) := by decide +kernel
theorem dX2_weighBadOnes_55 : decode cX2_weighBadOnes 55 = .ok (.iconst 0, 1) := by decide +kernel
theorem dX2_weighBadOnes_56 : decode cX2_weighBadOnes 56 = .ok (.ireturn, 1) := by decide +kernel
theorem dX2_weighBadOnes_57 : decode cX2_weighBadOnes 57 = .ok (.aload_n 0, 1) := by decide +kernel
theorem dX2_weighBadOnes_58 : decode cX2_weighBadOnes 58 = .ok (.getfield 18, 3) := by decide +kernel
theorem dX2_weighBadOnes_61 : decode cX2_weighBadOnes 61 = .ok (.iload_n 2, 1) := by decide +kernel
theorem dX2_weighBadOnes_62 : decode cX2_weighBadOnes 62 = .ok (.iload_n 3, 1) := by decide +kernel
theorem dX2_weighBadOnes_63 : decode cX2_weighBadOnes 63 = .ok (.iastore, 1) := by decide +kernel
theorem dX2_weighBadOnes_64 : decode cX2_weighBadOnes 64 = .ok (.iinc 2 1, 3) := by decide +kernel
theorem dX2_weighBadOnes_67 : decode cX2_weighBadOnes 67 = .ok (.goto (-65), 3) := by decide +kernel
theorem dX2_weighBadOnes_70 : decode cX2_weighBadOnes 70 = .ok (.iconst 1, 1) := by decide +kernel
theorem dX2_weighBadOnes_71 : decode cX2_weighBadOnes 71 = .ok (.ireturn, 1) := by decide +kernel
theorem dX2_bitOf_0 : decode cX2_bitOf 0 = .ok (.iconst 0, 1) := by decide +kernel
theorem dX2_bitOf_1 : decode cX2_bitOf 1 = .ok (.istore_n 2, 1) := by decide +kernel
theorem dX2_bitOf_2 : decode cX2_bitOf 2 = .ok (.iload_n 2, 1) := by decide +kernel
theorem dX2_bitOf_3 : decode cX2_bitOf 3 = .ok (.aload_n 0, 1) := by decide +kernel
theorem dX2_bitOf_4 : decode cX2_bitOf 4 = .ok (.getfield 59, 3) := by decide +kernel
theorem dX2_bitOf_7 : decode cX2_bitOf 7 = .ok (.if_icmp .ge 30, 3) := by decide +kernel
theorem dX2_bitOf_10 : decode cX2_bitOf 10 = .ok (.aload_n 0, 1) := by decide +kernel
theorem dX2_bitOf_11 : decode cX2_bitOf 11 = .ok (.getfield 21, 3) := by decide +kernel
theorem dX2_bitOf_14 : decode cX2_bitOf 14 = .ok (.iload_n 2, 1) := by decide +kernel
theorem dX2_bitOf_15 : decode cX2_bitOf 15 = .ok (.iaload, 1) := by decide +kernel
theorem dX2_bitOf_16 : decode cX2_bitOf 16 = .ok (.iload_n 1, 1) := by decide +kernel
theorem dX2_bitOf_17 : decode cX2_bitOf 17 = .ok (.if_icmp .ne 14, 3) := by decide +kernel
theorem dX2_bitOf_20 : decode cX2_bitOf 20 = .ok (.iconst 1, 1) := by decide +kernel
theorem dX2_bitOf_21 : decode cX2_bitOf 21 = .ok (.aload_n 0, 1) := by decide +kernel
theorem dX2_bitOf_22 : decode cX2_bitOf 22 = .ok (.getfield 59, 3) := by decide +kernel
theorem dX2_bitOf_25 : decode cX2_bitOf 25 = .ok (.iconst 1, 1) := by decide +kernel
theorem dX2_bitOf_26 : decode cX2_bitOf 26 = .ok (.isub, 1) := by decide +kernel
theorem dX2_bitOf_27 : decode cX2_bitOf 27 = .ok (.iload_n 2, 1) := by decide +kernel
theorem dX2_bitOf_28 : decode cX2_bitOf 28 = .ok (.isub, 1) := by decide +kernel
theorem dX2_bitOf_29 : decode cX2_bitOf 29 = .ok (.ishl, 1) := by decide +kernel
theorem dX2_bitOf_30 : decode cX2_bitOf 30 = .ok (.ireturn, 1) := by decide +kernel
theorem dX2_bitOf_31 : decode cX2_bitOf 31 = .ok (.iinc 2 1, 3) := by decide +kernel
theorem dX2_bitOf_34 : decode cX2_bitOf 34 = .ok (.goto (-32), 3) := by decide +kernel
theorem dX2_bitOf_37 : decode cX2_bitOf 37 = .ok (.iconst 0, 1) := by decide +kernel
theorem dX2_bitOf_38 : decode cX2_bitOf 38 = .ok (.ireturn, 1) := by decide +kernel
theorem dX2_hitsAllBadOnes_0 : decode cX2_hitsAllBadOnes 0 = .ok (.iconst 0, 1) := by decide +kernel
theorem dX2_hitsAllBadOnes_1 : decode cX2_hitsAllBadOnes 1 = .ok (.istore_n 2, 1) := by decide +kernel
theorem dX2_hitsAllBadOnes_2 : decode cX2_hitsAllBadOnes 2 = .ok (.iload_n 2, 1) := by decide +kernel
theorem dX2_hitsAllBadOnes_3 : decode cX2_hitsAllBadOnes 3 = .ok (.aload_n 0, 1) := by decide +kernel
theorem dX2_hitsAllBadOnes_4 : decode cX2_hitsAllBadOnes 4 = .ok (.getfield 30, 3) := by decide +kernel
theorem dX2_hitsAllBadOnes_7 : decode cX2_hitsAllBadOnes 7 = .ok (.if_icmp .ge 22, 3) := by decide +kernel
theorem dX2_hitsAllBadOnes_10 : decode cX2_hitsAllBadOnes 10 = .ok (.aload_n 0, 1) := by decide +kernel
theorem dX2_hitsAllBadOnes_11 : decode cX2_hitsAllBadOnes 11 = .ok (.getfield 18, 3) := by decide +kernel
theorem dX2_hitsAllBadOnes_14 : decode cX2_hitsAllBadOnes 14 = .ok (.iload_n 2, 1) := by decide +kernel
theorem dX2_hitsAllBadOnes_15 : decode cX2_hitsAllBadOnes 15 = .ok (.iaload, 1) := by decide +kernel
theorem dX2_hitsAllBadOnes_16 : decode cX2_hitsAllBadOnes 16 = .ok (.iload_n 1, 1) := by decide +kernel
theorem dX2_hitsAllBadOnes_17 : decode cX2_hitsAllBadOnes 17 = .ok (.iand, 1) := by decide +kernel
theorem dX2_hitsAllBadOnes_18 : decode cX2_hitsAllBadOnes 18 = .ok (.ifCond .ne 5, 3) := by decide +kernel
theorem dX2_hitsAllBadOnes_21 : decode cX2_hitsAllBadOnes 21 = .ok (.iconst 0, 1) := by decide +kernel
theorem dX2_hitsAllBadOnes_22 : decode cX2_hitsAllBadOnes 22 = .ok (.ireturn, 1) := by decide +kernel
theorem dX2_hitsAllBadOnes_23 : decode cX2_hitsAllBadOnes 23 = .ok (.iinc 2 1, 3) := by decide +kernel
theorem dX2_hitsAllBadOnes_26 : decode cX2_hitsAllBadOnes 26 = .ok (.goto (-24), 3) := by decide +kernel
theorem dX2_hitsAllBadOnes_29 : decode cX2_hitsAllBadOnes 29 = .ok (.iconst 1, 1) := by decide +kernel
theorem dX2_hitsAllBadOnes_30 : decode cX2_hitsAllBadOnes 30 = .ok (.ireturn, 1) := by decide +kernel
theorem dX2_suspectOfFirst_0 : decode cX2_suspectOfFirst 0 = .ok (.iconst 0, 1) := by decide +kernel
theorem dX2_suspectOfFirst_1 : decode cX2_suspectOfFirst 1 = .ok (.istore_n 2, 1) := by decide +kernel
theorem dX2_suspectOfFirst_2 : decode cX2_suspectOfFirst 2 = .ok (.iconst 0, 1) := by decide +kernel
theorem dX2_suspectOfFirst_3 : decode cX2_suspectOfFirst 3 = .ok (.istore_n 3, 1) := by decide +kernel
theorem dX2_suspectOfFirst_4 : decode cX2_suspectOfFirst 4 = .ok (.iload_n 3, 1) := by decide +kernel
theorem dX2_suspectOfFirst_5 : decode cX2_suspectOfFirst 5 = .ok (.aload_n 0, 1) := by decide +kernel
theorem dX2_suspectOfFirst_6 : decode cX2_suspectOfFirst 6 = .ok (.getfield 59, 3) := by decide +kernel
theorem dX2_suspectOfFirst_9 : decode cX2_suspectOfFirst 9 = .ok (.if_icmp .ge 59, 3) := by decide +kernel
theorem dX2_suspectOfFirst_12 : decode cX2_suspectOfFirst 12 = .ok (.aload_n 0, 1) := by decide +kernel
theorem dX2_suspectOfFirst_13 : decode cX2_suspectOfFirst 13 = .ok (.getfield 68, 3) := by decide +kernel
theorem dX2_suspectOfFirst_16 : decode cX2_suspectOfFirst 16 = .ok (.aload_n 0, 1) := by decide +kernel
theorem dX2_suspectOfFirst_17 : decode cX2_suspectOfFirst 17 = .ok (.getfield 59, 3) := by decide +kernel
theorem dX2_suspectOfFirst_20 : decode cX2_suspectOfFirst 20 = .ok (.iconst 1, 1) := by decide +kernel
theorem dX2_suspectOfFirst_21 : decode cX2_suspectOfFirst 21 = .ok (.isub, 1) := by decide +kernel
theorem dX2_suspectOfFirst_22 : decode cX2_suspectOfFirst 22 = .ok (.iload_n 3, 1) := by decide +kernel
theorem dX2_suspectOfFirst_23 : decode cX2_suspectOfFirst 23 = .ok (.isub, 1) := by decide +kernel
theorem dX2_suspectOfFirst_24 : decode cX2_suspectOfFirst 24 = .ok (.ishr, 1) := by decide +kernel
theorem dX2_suspectOfFirst_25 : decode cX2_suspectOfFirst 25 = .ok (.iconst 1, 1) := by decide +kernel
theorem dX2_suspectOfFirst_26 : decode cX2_suspectOfFirst 26 = .ok (.iand, 1) := by decide +kernel
theorem dX2_suspectOfFirst_27 : decode cX2_suspectOfFirst 27 = .ok (.iconst 1, 1) := by decide +kernel
theorem dX2_suspectOfFirst_28 : decode cX2_suspectOfFirst 28 = .ok (.if_icmp .ne 34, 3) := by decide +kernel
theorem dX2_suspectOfFirst_31 : decode cX2_suspectOfFirst 31 = .ok (.iload_n 2, 1) := by decide +kernel
theorem dX2_suspectOfFirst_32 : decode cX2_suspectOfFirst 32 = .ok (.iload_n 1, 1) := by decide +kernel
theorem dX2_suspectOfFirst_33 : decode cX2_suspectOfFirst 33 = .ok (.if_icmp .ne 26, 3) := by decide +kernel
theorem dX2_suspectOfFirst_36 : decode cX2_suspectOfFirst 36 = .ok (.aload_n 0, 1) := by decide +kernel
theorem dX2_suspectOfFirst_37 : decode cX2_suspectOfFirst 37 = .ok (.getfield 21, 3) := by decide +kernel
theorem dX2_suspectOfFirst_40 : decode cX2_suspectOfFirst 40 = .ok (.iload_n 3, 1) := by decide +kernel
theorem dX2_suspectOfFirst_41 : decode cX2_suspectOfFirst 41 = .ok (.iaload, 1) := by decide +kernel
theorem dX2_suspectOfFirst_42 : decode cX2_suspectOfFirst 42 = .ok (.bipush 40, 2) := by decide +kernel
theorem dX2_suspectOfFirst_44 : decode cX2_suspectOfFirst 44 = .ok (.idiv, 1) := by decide +kernel
theorem dX2_suspectOfFirst_45 : decode cX2_suspectOfFirst 45 = .ok (.bipush 100, 2) := by decide +kernel
theorem dX2_suspectOfFirst_47 : decode cX2_suspectOfFirst 47 = .ok (.imul, 1) := by decide +kernel
theorem dX2_suspectOfFirst_48 : decode cX2_suspectOfFirst 48 = .ok (.aload_n 0, 1) := by decide +kernel
theorem dX2_suspectOfFirst_49 : decode cX2_suspectOfFirst 49 = .ok (.getfield 21, 3) := by decide +kernel
theorem dX2_suspectOfFirst_52 : decode cX2_suspectOfFirst 52 = .ok (.iload_n 3, 1) := by decide +kernel
theorem dX2_suspectOfFirst_53 : decode cX2_suspectOfFirst 53 = .ok (.iaload, 1) := by decide +kernel
theorem dX2_suspectOfFirst_54 : decode cX2_suspectOfFirst 54 = .ok (.bipush 40, 2) := by decide +kernel
theorem dX2_suspectOfFirst_56 : decode cX2_suspectOfFirst 56 = .ok (.irem, 1) := by decide +kernel
theorem dX2_suspectOfFirst_57 : decode cX2_suspectOfFirst 57 = .ok (.iadd, 1) := by decide +kernel
theorem dX2_suspectOfFirst_58 : decode cX2_suspectOfFirst 58 = .ok (.ireturn, 1) := by decide +kernel
theorem dX2_suspectOfFirst_59 : decode cX2_suspectOfFirst 59 = .ok (.iinc 2 1, 3) := by decide +kernel
theorem dX2_suspectOfFirst_62 : decode cX2_suspectOfFirst 62 = .ok (.iinc 3 1, 3) := by decide +kernel
theorem dX2_suspectOfFirst_65 : decode cX2_suspectOfFirst 65 = .ok (.goto (-61), 3) := by decide +kernel
theorem dX2_suspectOfFirst_68 : decode cX2_suspectOfFirst 68 = .ok (.iconst (-1), 1) := by decide +kernel
theorem dX2_suspectOfFirst_69 : decode cX2_suspectOfFirst 69 = .ok (.ireturn, 1) := by decide +kernel
theorem dX3_init_0 : decode cX3_init 0 = .ok (.aload_n 0, 1) := by decide +kernel
theorem dX3_init_1 : decode cX3_init 1 = .ok (.invokespecial 3, 3) := by decide +kernel
theorem dX3_init_4 : decode cX3_init 4 = .ok (.aload_n 0, 1) := by decide +kernel
theorem dX3_init_5 : decode cX3_init 5 = .ok (.iconst 4, 1) := by decide +kernel
theorem dX3_init_6 : decode cX3_init 6 = .ok (.newarray .int, 2) := by decide +kernel
theorem dX3_init_8 : decode cX3_init 8 = .ok (.putfield 9, 3) := by decide +kernel
theorem dX3_init_11 : decode cX3_init 11 = .ok (.aload_n 0, 1) := by decide +kernel
theorem dX3_init_12 : decode cX3_init 12 = .ok (.iconst 4, 1) := by decide +kernel
theorem dX3_init_13 : decode cX3_init 13 = .ok (.newarray .long, 2) := by decide +kernel
theorem dX3_init_15 : decode cX3_init 15 = .ok (.putfield 15, 3) := by decide +kernel
theorem dX3_init_18 : decode cX3_init 18 = .ok (.return_, 1) := by decide +kernel
theorem dX3_look_0 : decode cX3_look 0 = .ok (.iconst 0, 1) := by decide +kernel
theorem dX3_look_1 : decode cX3_look 1 = .ok (.istore_n 3, 1) := by decide +kernel
theorem dX3_look_2 : decode cX3_look 2 = .ok (.iload_n 3, 1) := by decide +kernel
theorem dX3_look_3 : decode cX3_look 3 = .ok (.aload_n 1, 1) := by decide +kernel
theorem dX3_look_4 : decode cX3_look 4 = .ok (.getfield 19, 3) := by decide +kernel
theorem dX3_look_7 : decode cX3_look 7 = .ok (.if_icmp .ge 18, 3) := by decide +kernel
theorem dX3_look_10 : decode cX3_look 10 = .ok (.aload_n 0, 1) := by decide +kernel
theorem dX3_look_11 : decode cX3_look 11 = .ok (.getfield 9, 3) := by decide +kernel
theorem dX3_look_14 : decode cX3_look 14 = .ok (.iload_n 3, 1) := by decide +kernel
theorem dX3_look_15 : decode cX3_look 15 = .ok (.iload_n 3, 1) := by decide +kernel
theorem dX3_look_16 : decode cX3_look 16 = .ok (.iconst 1, 1) := by decide +kernel
theorem dX3_look_17 : decode cX3_look 17 = .ok (.iadd, 1) := by decide +kernel
theorem dX3_look_18 : decode cX3_look 18 = .ok (.iastore, 1) := by decide +kernel
theorem dX3_look_19 : decode cX3_look 19 = .ok (.iinc 3 1, 3) := by decide +kernel
theorem dX3_look_22 : decode cX3_look 22 = .ok (.goto (-20), 3) := by decide +kernel
theorem dX3_look_25 : decode cX3_look 25 = .ok (.aload_n 0, 1) := by decide +kernel
theorem dX3_look_26 : decode cX3_look 26 = .ok (.iconst (-1), 1) := by decide +kernel
theorem dX3_look_27 : decode cX3_look 27 = .ok (.putfield 25, 3) := by decide +kernel
theorem dX3_look_30 : decode cX3_look 30 = .ok (.aload_n 0, 1) := by decide +kernel
theorem dX3_look_31 : decode cX3_look 31 = .ok (.lconst 0, 1) := by decide +kernel
theorem dX3_look_32 : decode cX3_look 32 = .ok (.putfield 28, 3) := by decide +kernel
theorem dX3_look_35 : decode cX3_look 35 = .ok (.iconst 1, 1) := by decide +kernel
theorem dX3_look_36 : decode cX3_look 36 = .ok (.istore_n 3, 1) := by decide +kernel
theorem dX3_look_37 : decode cX3_look 37 = .ok (.iconst 0, 1) := by decide +kernel
theorem dX3_look_38 : decode cX3_look 38 = .ok (.istore 4, 2) := by decide +kernel
theorem dX3_look_40 : decode cX3_look 40 = .ok (.iload 4, 2) := by decide +kernel
theorem dX3_look_42 : decode cX3_look 42 = .ok (.bipush 24, 2) := by decide +kernel
theorem dX3_look_44 : decode cX3_look 44 = .ok (.if_icmp .ge 66, 3) := by decide +kernel
theorem dX3_look_47 : decode cX3_look 47 = .ok (.iload_n 3, 1) := by decide +kernel
theorem dX3_look_48 : decode cX3_look 48 = .ok (.ifCond .eq 62, 3) := by decide +kernel
theorem dX3_look_51 : decode cX3_look 51 = .ok (.aload_n 0, 1) := by decide +kernel
theorem dX3_look_52 : decode cX3_look 52 = .ok (.aload_n 1, 1) := by decide +kernel
theorem dX3_look_53 : decode cX3_look 53 = .ok (.iload_n 2, 1) := by decide +kernel
theorem dX3_look_54 : decode cX3_look 54 = .ok (.invokevirtual 32, 3) := by decide +kernel
theorem dX3_look_57 : decode cX3_look 57 = .ok (.lstore 5, 2) := by decide +kernel
theorem dX3_look_59 : decode cX3_look 59 = .ok (.aload_n 0, 1) := by decide +kernel
theorem dX3_look_60 : decode cX3_look 60 = .ok (.getfield 25, 3) := by decide +kernel
theorem dX3_look_63 : decode cX3_look 63 = .ok (.iconst (-1), 1) := by decide +kernel
theorem dX3_look_64 : decode cX3_look 64 = .ok (.if_icmp .eq 13, 3) := by decide +kernel
theorem dX3_look_67 : decode cX3_look 67 = .ok (.lload 5, 2) := by decide +kernel
theorem dX3_look_69 : decode cX3_look 69 = .ok (.aload_n 0, 1) := by decide +kernel
theorem dX3_look_70 : decode cX3_look 70 = .ok (.getfield 28, 3) := by decide +kernel
theorem dX3_look_73 : decode cX3_look 73 = .ok (.lcmp, 1) := by decide +kernel
theorem dX3_look_74 : decode cX3_look 74 = .ok (.ifCond .ge 21, 3) := by decide +kernel
theorem dX3_look_77 : decode cX3_look 77 = .ok (.aload_n 0, 1) := by decide +kernel
theorem dX3_look_78 : decode cX3_look 78 = .ok (.aload_n 0, 1) := by decide +kernel
theorem dX3_look_79 : decode cX3_look 79 = .ok (.aload_n 1, 1) := by decide +kernel
theorem dX3_look_80 : decode cX3_look 80 = .ok (.getfield 19, 3) := by decide +kernel
theorem dX3_look_83 : decode cX3_look 83 = .ok (.invokevirtual 36, 3) := by decide +kernel
theorem dX3_look_86 : decode cX3_look 86 = .ok (.putfield 25, 3) := by decide +kernel
theorem dX3_look_89 : decode cX3_look 89 = .ok (.aload_n 0, 1) := by decide +kernel
theorem dX3_look_90 : decode cX3_look 90 = .ok (.lload 5, 2) := by decide +kernel
theorem dX3_look_92 : decode cX3_look 92 = .ok (.putfield 28, 3) := by decide +kernel
theorem dX3_look_95 : decode cX3_look 95 = .ok (.aload_n 0, 1) := by decide +kernel
theorem dX3_look_96 : decode cX3_look 96 = .ok (.aload_n 1, 1) := by decide +kernel
theorem dX3_look_97 : decode cX3_look 97 = .ok (.getfield 19, 3) := by decide +kernel
theorem dX3_look_100 : decode cX3_look 100 = .ok (.invokevirtual 40, 3) := by decide +kernel
theorem dX3_look_103 : decode cX3_look 103 = .ok (.istore_n 3, 1) := by decide +kernel
theorem dX3_look_104 : decode cX3_look 104 = .ok (.iinc 4 1, 3) := by decide +kernel
theorem dX3_look_107 : decode cX3_look 107 = .ok (.goto (-67), 3) := by decide +kernel
theorem dX3_look_110 : decode cX3_look 110 = .ok (.return_, 1) := by decide +kernel
theorem dX3_greatestWidth_0 : decode cX3_greatestWidth 0 = .ok (.lconst 0, 1) := by decide +kernel
theorem dX3_greatestWidth_1 : decode cX3_greatestWidth 1 = .ok (.lstore_n 3, 1) := by decide +kernel
theorem dX3_greatestWidth_2 : decode cX3_greatestWidth 2 = .ok (.iconst 0, 1) := by decide +kernel
theorem dX3_greatestWidth_3 : decode cX3_greatestWidth 3 = .ok (.istore 5, 2) := by decide +kernel
theorem dX3_greatestWidth_5 : decode cX3_greatestWidth 5 = .ok (.iload 5, 2) := by decide +kernel
theorem dX3_greatestWidth_7 : decode cX3_greatestWidth 7 = .ok (.iconst 1, 1) := by decide +kernel
theorem dX3_greatestWidth_8 : decode cX3_greatestWidth 8 = .ok (.aload_n 1, 1) := by decide +kernel
theorem dX3_greatestWidth_9 : decode cX3_greatestWidth 9 = .ok (.getfield 19, 3) := by decide +kernel
theorem dX3_greatestWidth_12 : decode cX3_greatestWidth 12 = .ok (.ishl, 1) := by decide +kernel
theorem dX3_greatestWidth_13 : decode cX3_greatestWidth 13 = .ok (.if_icmp .ge 119, 3) := by decide +kernel
theorem dX3_greatestWidth_16 : decode cX3_greatestWidth 16 = .ok (.iconst 0, 1) := by decide +kernel
theorem dX3_greatestWidth_17 : decode cX3_greatestWidth 17 = .ok (.istore 6, 2) := by decide +kernel
theorem dX3_greatestWidth_19 : decode cX3_greatestWidth 19 = .ok (.iload 6, 2) := by decide +kernel
theorem dX3_greatestWidth_21 : decode cX3_greatestWidth 21 = .ok (.aload_n 1, 1) := by decide +kernel
theorem dX3_greatestWidth_22 : decode cX3_greatestWidth 22 = .ok (.getfield 19, 3) := by decide +kernel
theorem dX3_greatestWidth_25 : decode cX3_greatestWidth 25 = .ok (.if_icmp .ge 72, 3) := by decide +kernel
theorem dX3_greatestWidth_28 : decode cX3_greatestWidth 28 = .ok (.iload 5, 2) := by decide +kernel
theorem dX3_greatestWidth_30 : decode cX3_greatestWidth 30 = .ok (.iload 6, 2) := by decide +kernel
theorem dX3_greatestWidth_32 : decode cX3_greatestWidth 32 = .ok (.ishr, 1) := by decide +kernel
theorem dX3_greatestWidth_33 : decode cX3_greatestWidth 33 = .ok (.iconst 1, 1) := by decide +kernel
theorem dX3_greatestWidth_34 : decode cX3_greatestWidth 34 = .ok (.iand, 1) := by decide +kernel
theorem dX3_greatestWidth_35 : decode cX3_greatestWidth 35 = .ok (.iconst 1, 1) := by decide +kernel
theorem dX3_greatestWidth_36 : decode cX3_greatestWidth 36 = .ok (.if_icmp .ne 7, 3) := by decide +kernel
theorem dX3_greatestWidth_39 : decode cX3_greatestWidth 39 = .ok (.iconst 1, 1) := by decide +kernel
theorem dX3_greatestWidth_40 : decode cX3_greatestWidth 40 = .ok (.goto 4, 3) := by decide +kernel
theorem dX3_greatestWidth_43 : decode cX3_greatestWidth 43 = .ok (.iconst 0, 1) := by decide +kernel
theorem dX3_greatestWidth_44 : decode cX3_greatestWidth 44 = .ok (.istore 7, 2) := by decide +kernel
theorem dX3_greatestWidth_46 : decode cX3_greatestWidth 46 = .ok (.aload_n 0, 1) := by decide +kernel
theorem dX3_greatestWidth_47 : decode cX3_greatestWidth 47 = .ok (.getfield 15, 3) := by decide +kernel
theorem dX3_greatestWidth_50 : decode cX3_greatestWidth 50 = .ok (.iload 6, 2) := by decide +kernel
theorem dX3_greatestWidth_52 : decode cX3_greatestWidth 52 = .ok (.aload_n 1, 1) := by decide +kernel
theorem dX3_greatestWidth_53 : decode cX3_greatestWidth 53 = .ok (.getfield 44, 3) := by decide +kernel
theorem dX3_greatestWidth_56 : decode cX3_greatestWidth 56 = .ok (.aload_n 0, 1) := by decide +kernel
theorem dX3_greatestWidth_57 : decode cX3_greatestWidth 57 = .ok (.getfield 9, 3) := by decide +kernel
theorem dX3_greatestWidth_60 : decode cX3_greatestWidth 60 = .ok (.iload 6, 2) := by decide +kernel
theorem dX3_greatestWidth_62 : decode cX3_greatestWidth 62 = .ok (.iaload, 1) := by decide +kernel
theorem dX3_greatestWidth_63 : decode cX3_greatestWidth 63 = .ok (.iload 7, 2) := by decide +kernel
theorem dX3_greatestWidth_65 : decode cX3_greatestWidth 65 = .ok (.ifCond .eq 20, 3) := by decide +kernel
theorem dX3_greatestWidth_68 : decode cX3_greatestWidth 68 = .ok (.aload_n 1, 1) := by decide +kernel
theorem dX3_greatestWidth_69 : decode cX3_greatestWidth 69 = .ok (.getfield 44, 3) := by decide +kernel
theorem dX3_greatestWidth_72 : decode cX3_greatestWidth 72 = .ok (.aload_n 0, 1) := by decide +kernel
theorem dX3_greatestWidth_73 : decode cX3_greatestWidth 73 = .ok (.getfield 9, 3) := by decide +kernel
theorem dX3_greatestWidth_76 : decode cX3_greatestWidth 76 = .ok (.iload 6, 2) := by decide +kernel
theorem dX3_greatestWidth_78 : decode cX3_greatestWidth 78 = .ok (.iaload, 1) := by decide +kernel
theorem dX3_greatestWidth_79 : decode cX3_greatestWidth 79 = .ok (.invokevirtual 48, 3) := by decide +kernel
theorem dX3_greatestWidth_82 : decode cX3_greatestWidth 82 = .ok (.goto 4, 3) := by decide +kernel
theorem dX3_greatestWidth_85 : decode cX3_greatestWidth 85 = .ok (.iconst 0, 1) := by decide +kernel
theorem dX3_greatestWidth_86 : decode cX3_greatestWidth 86 = .ok (.invokevirtual 53, 3) := by decide +kernel
theorem dX3_greatestWidth_89 : decode cX3_greatestWidth 89 = .ok (.i2l, 1) := by decide +kernel
theorem dX3_greatestWidth_90 : decode cX3_greatestWidth 90 = .ok (.lastore, 1) := by decide +kernel
theorem dX3_greatestWidth_91 : decode cX3_greatestWidth 91 = .ok (.iinc 6 1, 3) := by decide +kernel
theorem dX3_greatestWidth_94 : decode cX3_greatestWidth 94 = .ok (.goto (-75), 3) := by decide +kernel
theorem dX3_greatestWidth_97 : decode cX3_greatestWidth 97 = .ok (.aload_n 1, 1) := by decide +kernel
theorem dX3_greatestWidth_98 : decode cX3_greatestWidth 98 = .ok (.aload_n 0, 1) := by decide +kernel
theorem dX3_greatestWidth_99 : decode cX3_greatestWidth 99 = .ok (.getfield 15, 3) := by decide +kernel
theorem dX3_greatestWidth_102 : decode cX3_greatestWidth 102 = .ok (.iload_n 2, 1) := by decide +kernel
theorem dX3_greatestWidth_103 : decode cX3_greatestWidth 103 = .ok (.invokevirtual 57, 3) := by decide +kernel
theorem dX3_greatestWidth_106 : decode cX3_greatestWidth 106 = .ok (.aload_n 1, 1) := by decide +kernel
theorem dX3_greatestWidth_107 : decode cX3_greatestWidth 107 = .ok (.aload_n 0, 1) := by decide +kernel
theorem dX3_greatestWidth_108 : decode cX3_greatestWidth 108 = .ok (.getfield 15, 3) := by decide +kernel
theorem dX3_greatestWidth_111 : decode cX3_greatestWidth 111 = .ok (.iload_n 2, 1) := by decide +kernel
theorem dX3_greatestWidth_112 : decode cX3_greatestWidth 112 = .ok (.ineg, 1) := by decide +kernel
theorem dX3_greatestWidth_113 : decode cX3_greatestWidth 113 = .ok (.invokevirtual 57, 3) := by decide +kernel
theorem dX3_greatestWidth_116 : decode cX3_greatestWidth 116 = .ok (.lsub, 1) := by decide +kernel
theorem dX3_greatestWidth_117 : decode cX3_greatestWidth 117 = .ok (.lstore 6, 2) := by decide +kernel
theorem dX3_greatestWidth_119 : decode cX3_greatestWidth 119 = .ok (.lload_n 3, 1) := by decide +kernel
theorem dX3_greatestWidth_120 : decode cX3_greatestWidth 120 = .ok (.lload 6, 2) := by decide +kernel
theorem dX3_greatestWidth_122 : decode cX3_greatestWidth 122 = .ok (.invokestatic 61, 3) := by decide +kernel
theorem dX3_greatestWidth_125 : decode cX3_greatestWidth 125 = .ok (.lstore_n 3, 1) := by decide +kernel
theorem dX3_greatestWidth_126 : decode cX3_greatestWidth 126 = .ok (.iinc 5 1, 3) := by decide +kernel
theorem dX3_greatestWidth_129 : decode cX3_greatestWidth 129 = .ok (.goto (-124), 3) := by decide +kernel
theorem dX3_greatestWidth_132 : decode cX3_greatestWidth 132 = .ok (.lload_n 3, 1) := by decide +kernel
theorem dX3_greatestWidth_133 : decode cX3_greatestWidth 133 = .ok (.lreturn, 1) := by decide +kernel
theorem dX3_digitsOfTried_0 : decode cX3_digitsOfTried 0 = .ok (.iconst 0, 1) := by decide +kernel
theorem dX3_digitsOfTried_1 : decode cX3_digitsOfTried 1 = .ok (.istore_n 2, 1) := by decide +kernel
theorem dX3_digitsOfTried_2 : decode cX3_digitsOfTried 2 = .ok (.iconst 0, 1) := by decide +kernel
theorem dX3_digitsOfTried_3 : decode cX3_digitsOfTried 3 = .ok (.istore_n 3, 1) := by decide +kernel
theorem dX3_digitsOfTried_4 : decode cX3_digitsOfTried 4 = .ok (.iload_n 3, 1) := by decide +kernel
theorem dX3_digitsOfTried_5 : decode cX3_digitsOfTried 5 = .ok (.iload_n 1, 1) := by decide +kernel
theorem dX3_digitsOfTried_6 : decode cX3_digitsOfTried 6 = .ok (.if_icmp .ge 21, 3) := by decide +kernel
theorem dX3_digitsOfTried_9 : decode cX3_digitsOfTried 9 = .ok (.iload_n 2, 1) := by decide +kernel
theorem dX3_digitsOfTried_10 : decode cX3_digitsOfTried 10 = .ok (.bipush 10, 2) := by decide +kernel
theorem dX3_digitsOfTried_12 : decode cX3_digitsOfTried 12 = .ok (.imul, 1) := by decide +kernel
theorem dX3_digitsOfTried_13 : decode cX3_digitsOfTried 13 = .ok (.aload_n 0, 1) := by decide +kernel
theorem dX3_digitsOfTried_14 : decode cX3_digitsOfTried 14 = .ok (.getfield 9, 3) := by decide +kernel
theorem dX3_digitsOfTried_17 : decode cX3_digitsOfTried 17 = .ok (.iload_n 3, 1) := by decide +kernel
theorem dX3_digitsOfTried_18 : decode cX3_digitsOfTried 18 = .ok (.iaload, 1) := by decide +kernel
theorem dX3_digitsOfTried_19 : decode cX3_digitsOfTried 19 = .ok (.iadd, 1) := by decide +kernel
theorem dX3_digitsOfTried_20 : decode cX3_digitsOfTried 20 = .ok (.istore_n 2, 1) := by decide +kernel
theorem dX3_digitsOfTried_21 : decode cX3_digitsOfTried 21 = .ok (.iinc 3 1, 3) := by decide +kernel
theorem dX3_digitsOfTried_24 : decode cX3_digitsOfTried 24 = .ok (.goto (-20), 3) := by decide +kernel
theorem dX3_digitsOfTried_27 : decode cX3_digitsOfTried 27 = .ok (.iload_n 2, 1) := by decide +kernel
theorem dX3_digitsOfTried_28 : decode cX3_digitsOfTried 28 = .ok (.ireturn, 1) := by decide +kernel
theorem dX3_goToNext_0 : decode cX3_goToNext 0 = .ok (.iload_n 1, 1) := by decide +kernel
theorem dX3_goToNext_1 : decode cX3_goToNext 1 = .ok (.iconst 2, 1) := by decide +kernel
theorem dX3_goToNext_2 : decode cX3_goToNext 2 = .ok (.isub, 1) := by decide +kernel
theorem dX3_goToNext_3 : decode cX3_goToNext 3 = .ok (.istore_n 2, 1) := by decide +kernel
theorem dX3_goToNext_4 : decode cX3_goToNext 4 = .ok (.iload_n 2, 1) := by decide +kernel
theorem dX3_goToNext_5 : decode cX3_goToNext 5 = .ok (.ifCond .lt 26, 3) := by decide +kernel
theorem dX3_goToNext_8 : decode cX3_goToNext 8 = .ok (.aload_n 0, 1) := by decide +kernel
theorem dX3_goToNext_9 : decode cX3_goToNext 9 = .ok (.getfield 9, 3) := by decide +kernel
theorem dX3_goToNext_12 : decode cX3_goToNext 12 = .ok (.iload_n 2, 1) := by decide +kernel
theorem dX3_goToNext_13 : decode cX3_goToNext 13 = .ok (.iaload, 1) := by decide +kernel
theorem dX3_goToNext_14 : decode cX3_goToNext 14 = .ok (.aload_n 0, 1) := by decide +kernel
theorem dX3_goToNext_15 : decode cX3_goToNext 15 = .ok (.getfield 9, 3) := by decide +kernel
theorem dX3_goToNext_18 : decode cX3_goToNext 18 = .ok (.iload_n 2, 1) := by decide +kernel
theorem dX3_goToNext_19 : decode cX3_goToNext 19 = .ok (.iconst 1, 1) := by decide +kernel
theorem dX3_goToNext_20 : decode cX3_goToNext 20 = .ok (.iadd, 1) := by decide +kernel
theorem dX3_goToNext_21 : decode cX3_goToNext 21 = .ok (.iaload, 1) := by decide +kernel
theorem dX3_goToNext_22 : decode cX3_goToNext 22 = .ok (.if_icmp .le 9, 3) := by decide +kernel
theorem dX3_goToNext_25 : decode cX3_goToNext 25 = .ok (.iinc 2 (-1), 3) := by decide +kernel
theorem dX3_goToNext_28 : decode cX3_goToNext 28 = .ok (.goto (-24), 3) := by decide +kernel
theorem dX3_goToNext_31 : decode cX3_goToNext 31 = .ok (.iload_n 2, 1) := by decide +kernel
theorem dX3_goToNext_32 : decode cX3_goToNext 32 = .ok (.ifCond .ge 5, 3) := by decide +kernel
theorem dX3_goToNext_35 : decode cX3_goToNext 35 = .ok (.iconst 0, 1) := by decide +kernel
theorem dX3_goToNext_36 : decode cX3_goToNext 36 = .ok (.ireturn, 1) := by decide +kernel
theorem dX3_goToNext_37 : decode cX3_goToNext 37 = .ok (.iload_n 1, 1) := by decide +kernel
theorem dX3_goToNext_38 : decode cX3_goToNext 38 = .ok (.iconst 1, 1) := by decide +kernel
theorem dX3_goToNext_39 : decode cX3_goToNext 39 = .ok (.isub, 1) := by decide +kernel
theorem dX3_goToNext_40 : decode cX3_goToNext 40 = .ok (.istore_n 3, 1) := by decide +kernel
theorem dX3_goToNext_41 : decode cX3_goToNext 41 = .ok (.iload_n 3, 1) := by decide +kernel
theorem dX3_goToNext_42 : decode cX3_goToNext 42 = .ok (.iload_n 2, 1) := by decide +kernel
theorem dX3_goToNext_43 : decode cX3_goToNext 43 = .ok (.if_icmp .le 24, 3) := by decide +kernel
theorem dX3_goToNext_46 : decode cX3_goToNext 46 = .ok (.aload_n 0, 1) := by decide +kernel
theorem dX3_goToNext_47 : decode cX3_goToNext 47 = .ok (.getfield 9, 3) := by decide +kernel
theorem dX3_goToNext_50 : decode cX3_goToNext 50 = .ok (.iload_n 3, 1) := by decide +kernel
theorem dX3_goToNext_51 : decode cX3_goToNext 51 = .ok (.iaload, 1) := by decide +kernel
theorem dX3_goToNext_52 : decode cX3_goToNext 52 = .ok (.aload_n 0, 1) := by decide +kernel
theorem dX3_goToNext_53 : decode cX3_goToNext 53 = .ok (.getfield 9, 3) := by decide +kernel
theorem dX3_goToNext_56 : decode cX3_goToNext 56 = .ok (.iload_n 2, 1) := by decide +kernel
theorem dX3_goToNext_57 : decode cX3_goToNext 57 = .ok (.iaload, 1) := by decide +kernel
theorem dX3_goToNext_58 : decode cX3_goToNext 58 = .ok (.if_icmp .ge 9, 3) := by decide +kernel
theorem dX3_goToNext_61 : decode cX3_goToNext 61 = .ok (.iinc 3 (-1), 3) := by decide +kernel
theorem dX3_goToNext_64 : decode cX3_goToNext 64 = .ok (.goto (-23), 3) := by decide +kernel
theorem dX3_goToNext_67 : decode cX3_goToNext 67 = .ok (.aload_n 0, 1) := by decide +kernel
theorem dX3_goToNext_68 : decode cX3_goToNext 68 = .ok (.iload_n 2, 1) := by decide +kernel
theorem dX3_goToNext_69 : decode cX3_goToNext 69 = .ok (.iload_n 3, 1) := by decide +kernel
theorem dX3_goToNext_70 : decode cX3_goToNext 70 = .ok (.invokevirtual 67, 3) := by decide +kernel
theorem dX3_goToNext_73 : decode cX3_goToNext 73 = .ok (.iload_n 2, 1) := by decide +kernel
theorem dX3_goToNext_74 : decode cX3_goToNext 74 = .ok (.iconst 1, 1) := by decide +kernel
theorem dX3_goToNext_75 : decode cX3_goToNext 75 = .ok (.iadd, 1) := by decide +kernel
theorem dX3_goToNext_76 : decode cX3_goToNext 76 = .ok (.istore 4, 2) := by decide +kernel
theorem dX3_goToNext_78 : decode cX3_goToNext 78 = .ok (.iload_n 1, 1) := by decide +kernel
theorem dX3_goToNext_79 : decode cX3_goToNext 79 = .ok (.iconst 1, 1) := by decide +kernel
theorem dX3_goToNext_80 : decode cX3_goToNext 80 = .ok (.isub, 1) := by decide +kernel
theorem dX3_goToNext_81 : decode cX3_goToNext 81 = .ok (.istore 5, 2) := by decide +kernel
theorem dX3_goToNext_83 : decode cX3_goToNext 83 = .ok (.iload 4, 2) := by decide +kernel
theorem dX3_goToNext_85 : decode cX3_goToNext 85 = .ok (.iload 5, 2) := by decide +kernel
theorem dX3_goToNext_87 : decode cX3_goToNext 87 = .ok (.if_icmp .ge 20, 3) := by decide +kernel
theorem dX3_goToNext_90 : decode cX3_goToNext 90 = .ok (.aload_n 0, 1) := by decide +kernel
theorem dX3_goToNext_91 : decode cX3_goToNext 91 = .ok (.iload 4, 2) := by decide +kernel
theorem dX3_goToNext_93 : decode cX3_goToNext 93 = .ok (.iload 5, 2) := by decide +kernel
theorem dX3_goToNext_95 : decode cX3_goToNext 95 = .ok (.invokevirtual 67, 3) := by decide +kernel
theorem dX3_goToNext_98 : decode cX3_goToNext 98 = .ok (.iinc 4 1, 3) := by decide +kernel
theorem dX3_goToNext_101 : decode cX3_goToNext 101 = .ok (.iinc 5 (-1), 3) := by decide +kernel
theorem dX3_goToNext_104 : decode cX3_goToNext 104 = .ok (.goto (-21), 3) := by decide +kernel
theorem dX3_goToNext_107 : decode cX3_goToNext 107 = .ok (.iconst 1, 1) := by decide +kernel
theorem dX3_goToNext_108 : decode cX3_goToNext 108 = .ok (.ireturn, 1) := by decide +kernel
theorem dX3_swap_0 : decode cX3_swap 0 = .ok (.aload_n 0, 1) := by decide +kernel
theorem dX3_swap_1 : decode cX3_swap 1 = .ok (.getfield 9, 3) := by decide +kernel
theorem dX3_swap_4 : decode cX3_swap 4 = .ok (.iload_n 1, 1) := by decide +kernel
theorem dX3_swap_5 : decode cX3_swap 5 = .ok (.iaload, 1) := by decide +kernel
theorem dX3_swap_6 : decode cX3_swap 6 = .ok (.istore_n 3, 1) := by decide +kernel
theorem dX3_swap_7 : decode cX3_swap 7 = .ok (.aload_n 0, 1) := by decide +kernel
theorem dX3_swap_8 : decode cX3_swap 8 = .ok (.getfield 9, 3) := by decide +kernel
theorem dX3_swap_11 : decode cX3_swap 11 = .ok (.iload_n 1, 1) := by decide +kernel
theorem dX3_swap_12 : decode cX3_swap 12 = .ok (.aload_n 0, 1) := by decide +kernel
theorem dX3_swap_13 : decode cX3_swap 13 = .ok (.getfield 9, 3) := by decide +kernel
theorem dX3_swap_16 : decode cX3_swap 16 = .ok (.iload_n 2, 1) := by decide +kernel
theorem dX3_swap_17 : decode cX3_swap 17 = .ok (.iaload, 1) := by decide +kernel
theorem dX3_swap_18 : decode cX3_swap 18 = .ok (.iastore, 1) := by decide +kernel
theorem dX3_swap_19 : decode cX3_swap 19 = .ok (.aload_n 0, 1) := by decide +kernel
theorem dX3_swap_20 : decode cX3_swap 20 = .ok (.getfield 9, 3) := by decide +kernel
theorem dX3_swap_23 : decode cX3_swap 23 = .ok (.iload_n 2, 1) := by decide +kernel
theorem dX3_swap_24 : decode cX3_swap 24 = .ok (.iload_n 3, 1) := by decide +kernel
theorem dX3_swap_25 : decode cX3_swap 25 = .ok (.iastore, 1) := by decide +kernel
theorem dX3_swap_26 : decode cX3_swap 26 = .ok (.return_, 1) := by decide +kernel
theorem dX4_init_0 : decode cX4_init 0 = .ok (.aload_n 0, 1) := by decide +kernel
theorem dX4_init_1 : decode cX4_init 1 = .ok (.invokespecial 1, 3) := by decide +kernel
theorem dX4_init_4 : decode cX4_init 4 = .ok (.return_, 1) := by decide +kernel
theorem dX4_put_0 : decode cX4_put 0 = .ok (.aload_n 0, 1) := by decide +kernel
theorem dX4_put_1 : decode cX4_put 1 = .ok (.iload_n 1, 1) := by decide +kernel
theorem dX4_put_2 : decode cX4_put 2 = .ok (.putfield 7, 3) := by decide +kernel
theorem dX4_put_5 : decode cX4_put 5 = .ok (.aload_n 0, 1) := by decide +kernel
theorem dX4_put_6 : decode cX4_put 6 = .ok (.iload_n 2, 1) := by decide +kernel
theorem dX4_put_7 : decode cX4_put 7 = .ok (.putfield 13, 3) := by decide +kernel
theorem dX4_put_10 : decode cX4_put 10 = .ok (.aload_n 0, 1) := by decide +kernel
theorem dX4_put_11 : decode cX4_put 11 = .ok (.iload_n 3, 1) := by decide +kernel
theorem dX4_put_12 : decode cX4_put 12 = .ok (.putfield 16, 3) := by decide +kernel
theorem dX4_put_15 : decode cX4_put 15 = .ok (.return_, 1) := by decide +kernel
theorem dX4_lies_0 : decode cX4_lies 0 = .ok (.lload_n 1, 1) := by decide +kernel
theorem dX4_lies_1 : decode cX4_lies 1 = .ok (.aload_n 0, 1) := by decide +kernel
theorem dX4_lies_2 : decode cX4_lies 2 = .ok (.getfield 7, 3) := by decide +kernel
theorem dX4_lies_5 : decode cX4_lies 5 = .ok (.i2l, 1) := by decide +kernel
theorem dX4_lies_6 : decode cX4_lies 6 = .ok (.lcmp, 1) := by decide +kernel
theorem dX4_lies_7 : decode cX4_lies 7 = .ok (.ifCond .gt 17, 3) := by decide +kernel
theorem dX4_lies_10 : decode cX4_lies 10 = .ok (.lload_n 1, 1) := by decide +kernel
theorem dX4_lies_11 : decode cX4_lies 11 = .ok (.lload_n 1, 1) := by decide +kernel
theorem dX4_lies_12 : decode cX4_lies 12 = .ok (.aload_n 0, 1) := by decide +kernel
theorem dX4_lies_13 : decode cX4_lies 13 = .ok (.getfield 13, 3) := by decide +kernel
theorem dX4_lies_16 : decode cX4_lies 16 = .ok (.i2l, 1) := by decide +kernel
theorem dX4_lies_17 : decode cX4_lies 17 = .ok (.lmul, 1) := by decide +kernel
theorem dX4_lies_18 : decode cX4_lies 18 = .ok (.ldc2_w 19, 3) := by decide +kernel
theorem dX4_lies_21 : decode cX4_lies 21 = .ok (.ldiv, 1) := by decide +kernel
theorem dX4_lies_22 : decode cX4_lies 22 = .ok (.ladd, 1) := by decide +kernel
theorem dX4_lies_23 : decode cX4_lies 23 = .ok (.lreturn, 1) := by decide +kernel
theorem dX4_lies_24 : decode cX4_lies 24 = .ok (.lload_n 1, 1) := by decide +kernel
theorem dX4_lies_25 : decode cX4_lies 25 = .ok (.aload_n 0, 1) := by decide +kernel
theorem dX4_lies_26 : decode cX4_lies 26 = .ok (.getfield 7, 3) := by decide +kernel
theorem dX4_lies_29 : decode cX4_lies 29 = .ok (.i2l, 1) := by decide +kernel
theorem dX4_lies_30 : decode cX4_lies 30 = .ok (.lsub, 1) := by decide +kernel
theorem dX4_lies_31 : decode cX4_lies 31 = .ok (.lstore_n 3, 1) := by decide +kernel
theorem dX4_lies_32 : decode cX4_lies 32 = .ok (.aload_n 0, 1) := by decide +kernel
theorem dX4_lies_33 : decode cX4_lies 33 = .ok (.getfield 7, 3) := by decide +kernel
theorem dX4_lies_36 : decode cX4_lies 36 = .ok (.i2l, 1) := by decide +kernel
theorem dX4_lies_37 : decode cX4_lies 37 = .ok (.aload_n 0, 1) := by decide +kernel
theorem dX4_lies_38 : decode cX4_lies 38 = .ok (.getfield 7, 3) := by decide +kernel
theorem dX4_lies_41 : decode cX4_lies 41 = .ok (.i2l, 1) := by decide +kernel
theorem dX4_lies_42 : decode cX4_lies 42 = .ok (.aload_n 0, 1) := by decide +kernel
theorem dX4_lies_43 : decode cX4_lies 43 = .ok (.getfield 13, 3) := by decide +kernel
theorem dX4_lies_46 : decode cX4_lies 46 = .ok (.i2l, 1) := by decide +kernel
theorem dX4_lies_47 : decode cX4_lies 47 = .ok (.lmul, 1) := by decide +kernel
theorem dX4_lies_48 : decode cX4_lies 48 = .ok (.ldc2_w 19, 3) := by decide +kernel
theorem dX4_lies_51 : decode cX4_lies 51 = .ok (.ldiv, 1) := by decide +kernel
theorem dX4_lies_52 : decode cX4_lies 52 = .ok (.ladd, 1) := by decide +kernel
theorem dX4_lies_53 : decode cX4_lies 53 = .ok (.lload_n 3, 1) := by decide +kernel
theorem dX4_lies_54 : decode cX4_lies 54 = .ok (.ladd, 1) := by decide +kernel
theorem dX4_lies_55 : decode cX4_lies 55 = .ok (.lload_n 3, 1) := by decide +kernel
theorem dX4_lies_56 : decode cX4_lies 56 = .ok (.aload_n 0, 1) := by decide +kernel
theorem dX4_lies_57 : decode cX4_lies 57 = .ok (.getfield 16, 3) := by decide +kernel
theorem dX4_lies_60 : decode cX4_lies 60 = .ok (.i2l, 1) := by decide +kernel
theorem dX4_lies_61 : decode cX4_lies 61 = .ok (.lmul, 1) := by decide +kernel
theorem dX4_lies_62 : decode cX4_lies 62 = .ok (.ldc2_w 19, 3) := by decide +kernel
theorem dX4_lies_65 : decode cX4_lies 65 = .ok (.ldiv, 1) := by decide +kernel
theorem dX4_lies_66 : decode cX4_lies 66 = .ok (.ladd, 1) := by decide +kernel
theorem dX4_lies_67 : decode cX4_lies 67 = .ok (.lreturn, 1) := by decide +kernel
theorem dX4_placeReadAt_0 : decode cX4_placeReadAt 0 = .ok (.lload_n 1, 1) := by decide +kernel
theorem dX4_placeReadAt_1 : decode cX4_placeReadAt 1 = .ok (.invokestatic 21, 3) := by decide +kernel
theorem dX4_placeReadAt_4 : decode cX4_placeReadAt 4 = .ok (.ldc2_w 27, 3) := by decide +kernel
theorem dX4_placeReadAt_7 : decode cX4_placeReadAt 7 = .ok (.ldiv, 1) := by decide +kernel
theorem dX4_placeReadAt_8 : decode cX4_placeReadAt 8 = .ok (.ldc2_w 29, 3) := by decide +kernel
theorem dX4_placeReadAt_11 : decode cX4_placeReadAt 11 = .ok (.ladd, 1) := by decide +kernel
theorem dX4_placeReadAt_12 : decode cX4_placeReadAt 12 = .ok (.lstore_n 3, 1) := by decide +kernel
theorem dX4_placeReadAt_13 : decode cX4_placeReadAt 13 = .ok (.lload_n 1, 1) := by decide +kernel
theorem dX4_placeReadAt_14 : decode cX4_placeReadAt 14 = .ok (.lload_n 3, 1) := by decide +kernel
theorem dX4_placeReadAt_15 : decode cX4_placeReadAt 15 = .ok (.lsub, 1) := by decide +kernel
theorem dX4_placeReadAt_16 : decode cX4_placeReadAt 16 = .ok (.lstore 5, 2) := by decide +kernel
theorem dX4_placeReadAt_18 : decode cX4_placeReadAt 18 = .ok (.lload_n 1, 1) := by decide +kernel
theorem dX4_placeReadAt_19 : decode cX4_placeReadAt 19 = .ok (.lload_n 3, 1) := by decide +kernel
theorem dX4_placeReadAt_20 : decode cX4_placeReadAt 20 = .ok (.ladd, 1) := by decide +kernel
theorem dX4_placeReadAt_21 : decode cX4_placeReadAt 21 = .ok (.lstore 7, 2) := by decide +kernel
theorem dX4_placeReadAt_23 : decode cX4_placeReadAt 23 = .ok (.iconst 0, 1) := by decide +kernel
theorem dX4_placeReadAt_24 : decode cX4_placeReadAt 24 = .ok (.istore 9, 2) := by decide +kernel
theorem dX4_placeReadAt_26 : decode cX4_placeReadAt 26 = .ok (.iload 9, 2) := by decide +kernel
theorem dX4_placeReadAt_28 : decode cX4_placeReadAt 28 = .ok (.bipush 64, 2) := by decide +kernel
theorem dX4_placeReadAt_30 : decode cX4_placeReadAt 30 = .ok (.if_icmp .ge 55, 3) := by decide +kernel
theorem dX4_placeReadAt_33 : decode cX4_placeReadAt 33 = .ok (.lload 7, 2) := by decide +kernel
theorem dX4_placeReadAt_35 : decode cX4_placeReadAt 35 = .ok (.lload 5, 2) := by decide +kernel
theorem dX4_placeReadAt_37 : decode cX4_placeReadAt 37 = .ok (.lsub, 1) := by decide +kernel
theorem dX4_placeReadAt_38 : decode cX4_placeReadAt 38 = .ok (.lconst 1, 1) := by decide +kernel
theorem dX4_placeReadAt_39 : decode cX4_placeReadAt 39 = .ok (.lcmp, 1) := by decide +kernel
theorem dX4_placeReadAt_40 : decode cX4_placeReadAt 40 = .ok (.ifCond .le 45, 3) := by decide +kernel
theorem dX4_placeReadAt_43 : decode cX4_placeReadAt 43 = .ok (.lload 5, 2) := by decide +kernel
theorem dX4_placeReadAt_45 : decode cX4_placeReadAt 45 = .ok (.lload 7, 2) := by decide +kernel
theorem dX4_placeReadAt_47 : decode cX4_placeReadAt 47 = .ok (.lload 5, 2) := by decide +kernel
theorem dX4_placeReadAt_49 : decode cX4_placeReadAt 49 = .ok (.lsub, 1) := by decide +kernel
theorem dX4_placeReadAt_50 : decode cX4_placeReadAt 50 = .ok (.ldc2_w 31, 3) := by decide +kernel
theorem dX4_placeReadAt_53 : decode cX4_placeReadAt 53 = .ok (.ldiv, 1) := by decide +kernel
theorem dX4_placeReadAt_54 : decode cX4_placeReadAt 54 = .ok (.ladd, 1) := by decide +kernel
theorem dX4_placeReadAt_55 : decode cX4_placeReadAt 55 = .ok (.lstore 10, 2) := by decide +kernel
theorem dX4_placeReadAt_57 : decode cX4_placeReadAt 57 = .ok (.aload_n 0, 1) := by decide +kernel
theorem dX4_placeReadAt_58 : decode cX4_placeReadAt 58 = .ok (.lload 10, 2) := by decide +kernel
theorem dX4_placeReadAt_60 : decode cX4_placeReadAt 60 = .ok (.invokevirtual 33, 3) := by decide +kernel
theorem dX4_placeReadAt_63 : decode cX4_placeReadAt 63 = .ok (.lload_n 1, 1) := by decide +kernel
theorem dX4_placeReadAt_64 : decode cX4_placeReadAt 64 = .ok (.lcmp, 1) := by decide +kernel
theorem dX4_placeReadAt_65 : decode cX4_placeReadAt 65 = .ok (.ifCond .gt 10, 3) := by decide +kernel
theorem dX4_placeReadAt_68 : decode cX4_placeReadAt 68 = .ok (.lload 10, 2) := by decide +kernel
theorem dX4_placeReadAt_70 : decode cX4_placeReadAt 70 = .ok (.lstore 5, 2) := by decide +kernel
theorem dX4_placeReadAt_72 : decode cX4_placeReadAt 72 = .ok (.goto 7, 3) := by decide +kernel
theorem dX4_placeReadAt_75 : decode cX4_placeReadAt 75 = .ok (.lload 10, 2) := by decide +kernel
theorem dX4_placeReadAt_77 : decode cX4_placeReadAt 77 = .ok (.lstore 7, 2) := by decide +kernel
theorem dX4_placeReadAt_79 : decode cX4_placeReadAt 79 = .ok (.iinc 9 1, 3) := by decide +kernel
theorem dX4_placeReadAt_82 : decode cX4_placeReadAt 82 = .ok (.goto (-56), 3) := by decide +kernel
theorem dX4_placeReadAt_85 : decode cX4_placeReadAt 85 = .ok (.lload 5, 2) := by decide +kernel
theorem dX4_placeReadAt_87 : decode cX4_placeReadAt 87 = .ok (.lreturn, 1) := by decide +kernel
theorem dX5_init_0 : decode cX5_init 0 = .ok (.aload_n 0, 1) := by decide +kernel
theorem dX5_init_1 : decode cX5_init 1 = .ok (.invokespecial 3, 3) := by decide +kernel
theorem dX5_init_4 : decode cX5_init 4 = .ok (.aload_n 0, 1) := by decide +kernel
theorem dX5_init_5 : decode cX5_init 5 = .ok (.iconst 5, 1) := by decide +kernel
theorem dX5_init_6 : decode cX5_init 6 = .ok (.newarray .int, 2) := by decide +kernel
theorem dX5_init_8 : decode cX5_init 8 = .ok (.putfield 9, 3) := by decide +kernel
theorem dX5_init_11 : decode cX5_init 11 = .ok (.aload_n 0, 1) := by decide +kernel
theorem dX5_init_12 : decode cX5_init 12 = .ok (.iconst 5, 1) := by decide +kernel
theorem dX5_init_13 : decode cX5_init 13 = .ok (.newarray .int, 2) := by decide +kernel
theorem dX5_init_15 : decode cX5_init 15 = .ok (.putfield 15, 3) := by decide +kernel
theorem dX5_init_18 : decode cX5_init 18 = .ok (.return_, 1) := by decide +kernel
theorem dX5_faultOf_0 : decode cX5_faultOf 0 = .ok (.aload_n 0, 1) := by decide +kernel
theorem dX5_faultOf_1 : decode cX5_faultOf 1 = .ok (.invokevirtual 18, 3) := by decide +kernel
theorem dX5_faultOf_4 : decode cX5_faultOf 4 = .ok (.iconst (-1), 1) := by decide +kernel
theorem dX5_faultOf_5 : decode cX5_faultOf 5 = .ok (.istore_n 2, 1) := by decide +kernel
theorem dX5_faultOf_6 : decode cX5_faultOf 6 = .ok (.iconst 0, 1) := by decide +kernel
theorem dX5_faultOf_7 : decode cX5_faultOf 7 = .ok (.istore_n 3, 1) := by decide +kernel
theorem dX5_faultOf_8 : decode cX5_faultOf 8 = .ok (.iconst 0, 1) := by decide +kernel
theorem dX5_faultOf_9 : decode cX5_faultOf 9 = .ok (.istore 4, 2) := by decide +kernel
theorem dX5_faultOf_11 : decode cX5_faultOf 11 = .ok (.iload 4, 2) := by decide +kernel
theorem dX5_faultOf_13 : decode cX5_faultOf 13 = .ok (.aload_n 1, 1) := by decide +kernel
theorem dX5_faultOf_14 : decode cX5_faultOf 14 = .ok (.getfield 21, 3) := by decide +kernel
theorem dX5_faultOf_17 : decode cX5_faultOf 17 = .ok (.if_icmp .ge 103, 3) := by decide +kernel
theorem dX5_faultOf_20 : decode cX5_faultOf 20 = .ok (.aload_n 1, 1) := by decide +kernel
theorem dX5_faultOf_21 : decode cX5_faultOf 21 = .ok (.iload 4, 2) := by decide +kernel
theorem dX5_faultOf_23 : decode cX5_faultOf 23 = .ok (.invokevirtual 27, 3) := by decide +kernel
theorem dX5_faultOf_26 : decode cX5_faultOf 26 = .ok (.istore 5, 2) := by decide +kernel
theorem dX5_faultOf_28 : decode cX5_faultOf 28 = .ok (.iload 5, 2) := by decide +kernel
theorem dX5_faultOf_30 : decode cX5_faultOf 30 = .ok (.bipush 48, 2) := by decide +kernel
theorem dX5_faultOf_32 : decode cX5_faultOf 32 = .ok (.if_icmp .lt 51, 3) := by decide +kernel
theorem dX5_faultOf_35 : decode cX5_faultOf 35 = .ok (.iload 5, 2) := by decide +kernel
theorem dX5_faultOf_37 : decode cX5_faultOf 37 = .ok (.bipush 57, 2) := by decide +kernel
theorem dX5_faultOf_39 : decode cX5_faultOf 39 = .ok (.if_icmp .gt 44, 3) := by decide +kernel
theorem dX5_faultOf_42 : decode cX5_faultOf 42 = .ok (.iload_n 2, 1) := by decide +kernel
theorem dX5_faultOf_43 : decode cX5_faultOf 43 = .ok (.iconst (-1), 1) := by decide +kernel
theorem dX5_faultOf_44 : decode cX5_faultOf 44 = .ok (.if_icmp .ne 19, 3) := by decide +kernel
theorem dX5_faultOf_47 : decode cX5_faultOf 47 = .ok (.aload_n 0, 1) := by decide +kernel
theorem dX5_faultOf_48 : decode cX5_faultOf 48 = .ok (.getfield 31, 3) := by decide +kernel
theorem dX5_faultOf_51 : decode cX5_faultOf 51 = .ok (.iconst 3, 1) := by decide +kernel
theorem dX5_faultOf_52 : decode cX5_faultOf 52 = .ok (.if_icmp .eq 6, 3) := by decide +kernel
theorem dX5_faultOf_55 : decode cX5_faultOf 55 = .ok (.iload 4, 2) := by decide +kernel
theorem dX5_faultOf_57 : decode cX5_faultOf 57 = .ok (.ireturn, 1) := by decide +kernel
theorem dX5_faultOf_58 : decode cX5_faultOf 58 = .ok (.iload 4, 2) := by decide +kernel
theorem dX5_faultOf_60 : decode cX5_faultOf 60 = .ok (.istore_n 2, 1) := by decide +kernel
theorem dX5_faultOf_61 : decode cX5_faultOf 61 = .ok (.iconst 0, 1) := by decide +kernel
theorem dX5_faultOf_62 : decode cX5_faultOf 62 = .ok (.istore_n 3, 1) := by decide +kernel
theorem dX5_faultOf_63 : decode cX5_faultOf 63 = .ok (.iload_n 3, 1) := by decide +kernel
theorem dX5_faultOf_64 : decode cX5_faultOf 64 = .ok (.bipush 10, 2) := by decide +kernel
theorem dX5_faultOf_66 : decode cX5_faultOf 66 = .ok (.imul, 1) := by decide +kernel
theorem dX5_faultOf_67 : decode cX5_faultOf 67 = .ok (.iload 5, 2) := by decide +kernel
theorem dX5_faultOf_69 : decode cX5_faultOf 69 = .ok (.bipush 48, 2) := by decide +kernel
theorem dX5_faultOf_71 : decode cX5_faultOf 71 = .ok (.isub, 1) := by decide +kernel
theorem dX5_faultOf_72 : decode cX5_faultOf 72 = .ok (.iadd, 1) := by decide +kernel
theorem dX5_faultOf_73 : decode cX5_faultOf 73 = .ok (.istore_n 3, 1) := by decide +kernel
theorem dX5_faultOf_74 : decode cX5_faultOf 74 = .ok (.iload_n 3, 1) := by decide +kernel
theorem dX5_faultOf_75 : decode cX5_faultOf 75 = .ok (.sipush 9999, 3) := by decide +kernel
theorem dX5_faultOf_78 : decode cX5_faultOf 78 = .ok (.if_icmp .le 36, 3) := by decide +kernel
theorem dX5_faultOf_81 : decode cX5_faultOf 81 = .ok (.iload_n 2, 1) := by decide +kernel
theorem dX5_faultOf_82 : decode cX5_faultOf 82 = .ok (.ireturn, 1) := by decide +kernel
theorem dX5_faultOf_83 : decode cX5_faultOf 83 = .ok (.iload_n 2, 1) := by decide +kernel
theorem dX5_faultOf_84 : decode cX5_faultOf 84 = .ok (.iconst (-1), 1) := by decide +kernel
theorem dX5_faultOf_85 : decode cX5_faultOf 85 = .ok (.if_icmp .eq 10, 3) := by decide +kernel
theorem dX5_faultOf_88 : decode cX5_faultOf 88 = .ok (.aload_n 0, 1) := by decide +kernel
theorem dX5_faultOf_89 : decode cX5_faultOf 89 = .ok (.iload_n 3, 1) := by decide +kernel
theorem dX5_faultOf_90 : decode cX5_faultOf 90 = .ok (.invokevirtual 34, 3) := by decide +kernel
theorem dX5_faultOf_93 : decode cX5_faultOf 93 = .ok (.iconst (-1), 1) := by decide +kernel
theorem dX5_faultOf_94 : decode cX5_faultOf 94 = .ok (.istore_n 2, 1) := by decide +kernel
theorem dX5_faultOf_95 : decode cX5_faultOf 95 = .ok (.iload 5, 2) := by decide +kernel
theorem dX5_faultOf_97 : decode cX5_faultOf 97 = .ok (.bipush 32, 2) := by decide +kernel
theorem dX5_faultOf_99 : decode cX5_faultOf 99 = .ok (.if_icmp .eq 15, 3) := by decide +kernel
theorem dX5_faultOf_102 : decode cX5_faultOf 102 = .ok (.aload_n 0, 1) := by decide +kernel
theorem dX5_faultOf_103 : decode cX5_faultOf 103 = .ok (.iload 5, 2) := by decide +kernel
theorem dX5_faultOf_105 : decode cX5_faultOf 105 = .ok (.invokevirtual 38, 3) := by decide +kernel
theorem dX5_faultOf_108 : decode cX5_faultOf 108 = .ok (.ifCond .ne 6, 3) := by decide +kernel
theorem dX5_faultOf_111 : decode cX5_faultOf 111 = .ok (.iload 4, 2) := by decide +kernel
theorem dX5_faultOf_113 : decode cX5_faultOf 113 = .ok (.ireturn, 1) := by decide +kernel
theorem dX5_faultOf_114 : decode cX5_faultOf 114 = .ok (.iinc 4 1, 3) := by decide +kernel
theorem dX5_faultOf_117 : decode cX5_faultOf 117 = .ok (.goto (-106), 3) := by decide +kernel
theorem dX5_faultOf_120 : decode cX5_faultOf 120 = .ok (.aload_n 0, 1) := by decide +kernel
theorem dX5_faultOf_121 : decode cX5_faultOf 121 = .ok (.getfield 31, 3) := by decide +kernel
theorem dX5_faultOf_124 : decode cX5_faultOf 124 = .ok (.bipush 8, 2) := by decide +kernel
theorem dX5_faultOf_126 : decode cX5_faultOf 126 = .ok (.if_icmp .ne 7, 3) := by decide +kernel
theorem dX5_faultOf_129 : decode cX5_faultOf 129 = .ok (.iconst (-1), 1) := by decide +kernel
theorem dX5_faultOf_130 : decode cX5_faultOf 130 = .ok (.goto 7, 3) := by decide +kernel
theorem dX5_faultOf_133 : decode cX5_faultOf 133 = .ok (.aload_n 1, 1) := by decide +kernel
theorem dX5_faultOf_134 : decode cX5_faultOf 134 = .ok (.getfield 21, 3) := by decide +kernel
theorem dX5_faultOf_137 : decode cX5_faultOf 137 = .ok (.ireturn, 1) := by decide +kernel
theorem dX5_startOver_0 : decode cX5_startOver 0 = .ok (.aload_n 0, 1) := by decide +kernel
theorem dX5_startOver_1 : decode cX5_startOver 1 = .ok (.iconst 0, 1) := by decide +kernel
theorem dX5_startOver_2 : decode cX5_startOver 2 = .ok (.putfield 42, 3) := by decide +kernel
theorem dX5_startOver_5 : decode cX5_startOver 5 = .ok (.aload_n 0, 1) := by decide +kernel
theorem dX5_startOver_6 : decode cX5_startOver 6 = .ok (.iconst 0, 1) := by decide +kernel
theorem dX5_startOver_7 : decode cX5_startOver 7 = .ok (.putfield 45, 3) := by decide +kernel
theorem dX5_startOver_10 : decode cX5_startOver 10 = .ok (.aload_n 0, 1) := by decide +kernel
theorem dX5_startOver_11 : decode cX5_startOver 11 = .ok (.iconst 0, 1) := by decide +kernel
theorem dX5_startOver_12 : decode cX5_startOver 12 = .ok (.putfield 31, 3) := by decide +kernel
theorem dX5_startOver_15 : decode cX5_startOver 15 = .ok (.aload_n 0, 1) := by decide +kernel
theorem dX5_startOver_16 : decode cX5_startOver 16 = .ok (.iconst 1, 1) := by decide +kernel
theorem dX5_startOver_17 : decode cX5_startOver 17 = .ok (.putfield 48, 3) := by decide +kernel
theorem dX5_startOver_20 : decode cX5_startOver 20 = .ok (.aload_n 0, 1) := by decide +kernel
theorem dX5_startOver_21 : decode cX5_startOver 21 = .ok (.iconst 0, 1) := by decide +kernel
theorem dX5_startOver_22 : decode cX5_startOver 22 = .ok (.putfield 51, 3) := by decide +kernel
theorem dX5_startOver_25 : decode cX5_startOver 25 = .ok (.aload_n 0, 1) := by decide +kernel
theorem dX5_startOver_26 : decode cX5_startOver 26 = .ok (.iconst 0, 1) := by decide +kernel
theorem dX5_startOver_27 : decode cX5_startOver 27 = .ok (.putfield 54, 3) := by decide +kernel
theorem dX5_startOver_30 : decode cX5_startOver 30 = .ok (.return_, 1) := by decide +kernel
theorem dX5_takeNumber_0 : decode cX5_takeNumber 0 = .ok (.aload_n 0, 1) := by decide +kernel
theorem dX5_takeNumber_1 : decode cX5_takeNumber 1 = .ok (.dup, 1) := by decide +kernel
theorem dX5_takeNumber_2 : decode cX5_takeNumber 2 = .ok (.getfield 45, 3) := by decide +kernel
theorem dX5_takeNumber_5 : decode cX5_takeNumber 5 = .ok (.aload_n 0, 1) := by decide +kernel
theorem dX5_takeNumber_6 : decode cX5_takeNumber 6 = .ok (.getfield 48, 3) := by decide +kernel
theorem dX5_takeNumber_9 : decode cX5_takeNumber 9 = .ok (.iload_n 1, 1) := by decide +kernel
theorem dX5_takeNumber_10 : decode cX5_takeNumber 10 = .ok (.imul, 1) := by decide +kernel
theorem dX5_takeNumber_11 : decode cX5_takeNumber 11 = .ok (.iadd, 1) := by decide +kernel
theorem dX5_takeNumber_12 : decode cX5_takeNumber 12 = .ok (.putfield 45, 3) := by decide +kernel
theorem dX5_takeNumber_15 : decode cX5_takeNumber 15 = .ok (.aload_n 0, 1) := by decide +kernel
theorem dX5_takeNumber_16 : decode cX5_takeNumber 16 = .ok (.bipush 7, 2) := by decide +kernel
theorem dX5_takeNumber_18 : decode cX5_takeNumber 18 = .ok (.putfield 31, 3) := by decide +kernel
theorem dX5_takeNumber_21 : decode cX5_takeNumber 21 = .ok (.return_, 1) := by decide +kernel
theorem dX5_takes_0 : decode cX5_takes 0 = .ok (.aload_n 0, 1) := by decide +kernel
theorem dX5_takes_1 : decode cX5_takes 1 = .ok (.getfield 31, 3) := by decide +kernel
theorem dX5_takes_4 : decode cX5_takes 4 = .ok (.tableswitch 121 0 7 #[48, 54, 48, 48, 75, 84, 109, 115], 48) := by decide +kernel
theorem dX5_takes_52 : decode cX5_takes 52 = .ok (.aload_n 0, 1) := by decide +kernel
theorem dX5_takes_53 : decode cX5_takes 53 = .ok (.iload_n 1, 1) := by decide +kernel
theorem dX5_takes_54 : decode cX5_takes 54 = .ok (.invokevirtual 57, 3) := by decide +kernel
theorem dX5_takes_57 : decode cX5_takes 57 = .ok (.ireturn, 1) := by decide +kernel
theorem dX5_takes_58 : decode cX5_takes 58 = .ok (.iload_n 1, 1) := by decide +kernel
theorem dX5_takes_59 : decode cX5_takes 59 = .ok (.bipush 45, 2) := by decide +kernel
theorem dX5_takes_61 : decode cX5_takes 61 = .ok (.if_icmp .ne 12, 3) := by decide +kernel
theorem dX5_takes_64 : decode cX5_takes 64 = .ok (.aload_n 0, 1) := by decide +kernel
theorem dX5_takes_65 : decode cX5_takes 65 = .ok (.iconst (-1), 1) := by decide +kernel
theorem dX5_takes_66 : decode cX5_takes 66 = .ok (.iconst 2, 1) := by decide +kernel
theorem dX5_takes_67 : decode cX5_takes 67 = .ok (.invokevirtual 60, 3) := by decide +kernel
theorem dX5_takes_70 : decode cX5_takes 70 = .ok (.goto 8, 3) := by decide +kernel
theorem dX5_takes_73 : decode cX5_takes 73 = .ok (.aload_n 0, 1) := by decide +kernel
theorem dX5_takes_74 : decode cX5_takes 74 = .ok (.iload_n 1, 1) := by decide +kernel
theorem dX5_takes_75 : decode cX5_takes 75 = .ok (.invokevirtual 57, 3) := by decide +kernel
theorem dX5_takes_78 : decode cX5_takes 78 = .ok (.ireturn, 1) := by decide +kernel
theorem dX5_takes_79 : decode cX5_takes 79 = .ok (.aload_n 0, 1) := by decide +kernel
theorem dX5_takes_80 : decode cX5_takes 80 = .ok (.iload_n 1, 1) := by decide +kernel
theorem dX5_takes_81 : decode cX5_takes 81 = .ok (.iconst 2, 1) := by decide +kernel
theorem dX5_takes_82 : decode cX5_takes 82 = .ok (.bipush 7, 2) := by decide +kernel
theorem dX5_takes_84 : decode cX5_takes 84 = .ok (.invokevirtual 64, 3) := by decide +kernel
theorem dX5_takes_87 : decode cX5_takes 87 = .ok (.ireturn, 1) := by decide +kernel
theorem dX5_takes_88 : decode cX5_takes 88 = .ok (.iload_n 1, 1) := by decide +kernel
theorem dX5_takes_89 : decode cX5_takes 89 = .ok (.bipush 42, 2) := by decide +kernel
theorem dX5_takes_91 : decode cX5_takes 91 = .ok (.if_icmp .ne 16, 3) := by decide +kernel
theorem dX5_takes_94 : decode cX5_takes 94 = .ok (.aload_n 0, 1) := by decide +kernel
theorem dX5_takes_95 : decode cX5_takes 95 = .ok (.aload_n 0, 1) := by decide +kernel
theorem dX5_takes_96 : decode cX5_takes 96 = .ok (.getfield 48, 3) := by decide +kernel
theorem dX5_takes_99 : decode cX5_takes 99 = .ok (.bipush 6, 2) := by decide +kernel
theorem dX5_takes_101 : decode cX5_takes 101 = .ok (.invokevirtual 60, 3) := by decide +kernel
theorem dX5_takes_104 : decode cX5_takes 104 = .ok (.goto 8, 3) := by decide +kernel
theorem dX5_takes_107 : decode cX5_takes 107 = .ok (.aload_n 0, 1) := by decide +kernel
theorem dX5_takes_108 : decode cX5_takes 108 = .ok (.iload_n 1, 1) := by decide +kernel
theorem dX5_takes_109 : decode cX5_takes 109 = .ok (.invokevirtual 68, 3) := by decide +kernel
theorem dX5_takes_112 : decode cX5_takes 112 = .ok (.ireturn, 1) := by decide +kernel
theorem dX5_takes_113 : decode cX5_takes 113 = .ok (.aload_n 0, 1) := by decide +kernel
theorem dX5_takes_114 : decode cX5_takes 114 = .ok (.iload_n 1, 1) := by decide +kernel
theorem dX5_takes_115 : decode cX5_takes 115 = .ok (.invokevirtual 71, 3) := by decide +kernel
theorem dX5_takes_118 : decode cX5_takes 118 = .ok (.ireturn, 1) := by decide +kernel
theorem dX5_takes_119 : decode cX5_takes 119 = .ok (.aload_n 0, 1) := by decide +kernel
theorem dX5_takes_120 : decode cX5_takes 120 = .ok (.iload_n 1, 1) := by decide +kernel
theorem dX5_takes_121 : decode cX5_takes 121 = .ok (.invokevirtual 68, 3) := by decide +kernel
theorem dX5_takes_124 : decode cX5_takes 124 = .ok (.ireturn, 1) := by decide +kernel
theorem dX5_takes_125 : decode cX5_takes 125 = .ok (.iconst 0, 1) := by decide +kernel
theorem dX5_takes_126 : decode cX5_takes 126 = .ok (.ireturn, 1) := by decide +kernel
theorem dX5_goesOn_0 : decode cX5_goesOn 0 = .ok (.aload_n 0, 1) := by decide +kernel
theorem dX5_goesOn_1 : decode cX5_goesOn 1 = .ok (.iload_n 1, 1) := by decide +kernel
theorem dX5_goesOn_2 : decode cX5_goesOn 2 = .ok (.putfield 48, 3) := by decide +kernel
theorem dX5_goesOn_5 : decode cX5_goesOn 5 = .ok (.aload_n 0, 1) := by decide +kernel
theorem dX5_goesOn_6 : decode cX5_goesOn 6 = .ok (.iload_n 2, 1) := by decide +kernel
theorem dX5_goesOn_7 : decode cX5_goesOn 7 = .ok (.putfield 31, 3) := by decide +kernel
theorem dX5_goesOn_10 : decode cX5_goesOn 10 = .ok (.iconst 1, 1) := by decide +kernel
theorem dX5_goesOn_11 : decode cX5_goesOn 11 = .ok (.ireturn, 1) := by decide +kernel
theorem dX5_beginsForm_0 : decode cX5_beginsForm 0 = .ok (.aload_n 0, 1) := by decide +kernel
theorem dX5_beginsForm_1 : decode cX5_beginsForm 1 = .ok (.getfield 42, 3) := by decide +kernel
theorem dX5_beginsForm_4 : decode cX5_beginsForm 4 = .ok (.iconst 5, 1) := by decide +kernel
theorem dX5_beginsForm_5 : decode cX5_beginsForm 5 = .ok (.if_icmp .lt 5, 3) := by decide +kernel
theorem dX5_beginsForm_8 : decode cX5_beginsForm 8 = .ok (.iconst 0, 1) := by decide +kernel
theorem dX5_beginsForm_9 : decode cX5_beginsForm 9 = .ok (.ireturn, 1) := by decide +kernel
theorem dX5_beginsForm_10 : decode cX5_beginsForm 10 = .ok (.iload_n 1, 1) := by decide +kernel
theorem dX5_beginsForm_11 : decode cX5_beginsForm 11 = .ok (.bipush 47, 2) := by decide +kernel
theorem dX5_beginsForm_13 : decode cX5_beginsForm 13 = .ok (.if_icmp .ne 15, 3) := by decide +kernel
theorem dX5_beginsForm_16 : decode cX5_beginsForm 16 = .ok (.aload_n 0, 1) := by decide +kernel
theorem dX5_beginsForm_17 : decode cX5_beginsForm 17 = .ok (.aload_n 0, 1) := by decide +kernel
theorem dX5_beginsForm_18 : decode cX5_beginsForm 18 = .ok (.getfield 48, 3) := by decide +kernel
theorem dX5_beginsForm_21 : decode cX5_beginsForm 21 = .ok (.iconst 4, 1) := by decide +kernel
theorem dX5_beginsForm_22 : decode cX5_beginsForm 22 = .ok (.invokevirtual 60, 3) := by decide +kernel
theorem dX5_beginsForm_25 : decode cX5_beginsForm 25 = .ok (.goto 10, 3) := by decide +kernel
theorem dX5_beginsForm_28 : decode cX5_beginsForm 28 = .ok (.aload_n 0, 1) := by decide +kernel
theorem dX5_beginsForm_29 : decode cX5_beginsForm 29 = .ok (.iload_n 1, 1) := by decide +kernel
theorem dX5_beginsForm_30 : decode cX5_beginsForm 30 = .ok (.iconst 0, 1) := by decide +kernel
theorem dX5_beginsForm_31 : decode cX5_beginsForm 31 = .ok (.iconst 5, 1) := by decide +kernel
theorem dX5_beginsForm_32 : decode cX5_beginsForm 32 = .ok (.invokevirtual 64, 3) := by decide +kernel
theorem dX5_beginsForm_35 : decode cX5_beginsForm 35 = .ok (.ireturn, 1) := by decide +kernel
theorem dX5_takesLetter_0 : decode cX5_takesLetter 0 = .ok (.iload_n 1, 1) := by decide +kernel
theorem dX5_takesLetter_1 : decode cX5_takesLetter 1 = .ok (.bipush 97, 2) := by decide +kernel
theorem dX5_takesLetter_3 : decode cX5_takesLetter 3 = .ok (.if_icmp .lt 17, 3) := by decide +kernel
theorem dX5_takesLetter_6 : decode cX5_takesLetter 6 = .ok (.iload_n 1, 1) := by decide +kernel
theorem dX5_takesLetter_7 : decode cX5_takesLetter 7 = .ok (.bipush 122, 2) := by decide +kernel
theorem dX5_takesLetter_9 : decode cX5_takesLetter 9 = .ok (.if_icmp .gt 11, 3) := by decide +kernel
theorem dX5_takesLetter_12 : decode cX5_takesLetter 12 = .ok (.aload_n 0, 1) := by decide +kernel
theorem dX5_takesLetter_13 : decode cX5_takesLetter 13 = .ok (.getfield 42, 3) := by decide +kernel
theorem dX5_takesLetter_16 : decode cX5_takesLetter 16 = .ok (.iconst 5, 1) := by decide +kernel
theorem dX5_takesLetter_17 : decode cX5_takesLetter 17 = .ok (.if_icmp .lt 5, 3) := by decide +kernel
theorem dX5_takesLetter_20 : decode cX5_takesLetter 20 = .ok (.iconst 0, 1) := by decide +kernel
theorem dX5_takesLetter_21 : decode cX5_takesLetter 21 = .ok (.ireturn, 1) := by decide +kernel
theorem dX5_takesLetter_22 : decode cX5_takesLetter 22 = .ok (.iconst 1, 1) := by decide +kernel
theorem dX5_takesLetter_23 : decode cX5_takesLetter 23 = .ok (.iload_n 1, 1) := by decide +kernel
theorem dX5_takesLetter_24 : decode cX5_takesLetter 24 = .ok (.bipush 97, 2) := by decide +kernel
theorem dX5_takesLetter_26 : decode cX5_takesLetter 26 = .ok (.isub, 1) := by decide +kernel
theorem dX5_takesLetter_27 : decode cX5_takesLetter 27 = .ok (.ishl, 1) := by decide +kernel
theorem dX5_takesLetter_28 : decode cX5_takesLetter 28 = .ok (.istore 4, 2) := by decide +kernel
theorem dX5_takesLetter_30 : decode cX5_takesLetter 30 = .ok (.aload_n 0, 1) := by decide +kernel
theorem dX5_takesLetter_31 : decode cX5_takesLetter 31 = .ok (.getfield 54, 3) := by decide +kernel
theorem dX5_takesLetter_34 : decode cX5_takesLetter 34 = .ok (.iload 4, 2) := by decide +kernel
theorem dX5_takesLetter_36 : decode cX5_takesLetter 36 = .ok (.iand, 1) := by decide +kernel
theorem dX5_takesLetter_37 : decode cX5_takesLetter 37 = .ok (.ifCond .eq 5, 3) := by decide +kernel
theorem dX5_takesLetter_40 : decode cX5_takesLetter 40 = .ok (.iconst 0, 1) := by decide +kernel
theorem dX5_takesLetter_41 : decode cX5_takesLetter 41 = .ok (.ireturn, 1) := by decide +kernel
theorem dX5_takesLetter_42 : decode cX5_takesLetter 42 = .ok (.aload_n 0, 1) := by decide +kernel
theorem dX5_takesLetter_43 : decode cX5_takesLetter 43 = .ok (.dup, 1) := by decide +kernel
theorem dX5_takesLetter_44 : decode cX5_takesLetter 44 = .ok (.getfield 54, 3) := by decide +kernel
theorem dX5_takesLetter_47 : decode cX5_takesLetter 47 = .ok (.iload 4, 2) := by decide +kernel
theorem dX5_takesLetter_49 : decode cX5_takesLetter 49 = .ok (.ior, 1) := by decide +kernel
theorem dX5_takesLetter_50 : decode cX5_takesLetter 50 = .ok (.putfield 54, 3) := by decide +kernel
theorem dX5_takesLetter_53 : decode cX5_takesLetter 53 = .ok (.aload_n 0, 1) := by decide +kernel
theorem dX5_takesLetter_54 : decode cX5_takesLetter 54 = .ok (.iload_n 1, 1) := by decide +kernel
theorem dX5_takesLetter_55 : decode cX5_takesLetter 55 = .ok (.putfield 51, 3) := by decide +kernel
theorem dX5_takesLetter_58 : decode cX5_takesLetter 58 = .ok (.aload_n 0, 1) := by decide +kernel
theorem dX5_takesLetter_59 : decode cX5_takesLetter 59 = .ok (.getfield 9, 3) := by decide +kernel
theorem dX5_takesLetter_62 : decode cX5_takesLetter 62 = .ok (.aload_n 0, 1) := by decide +kernel
theorem dX5_takesLetter_63 : decode cX5_takesLetter 63 = .ok (.getfield 42, 3) := by decide +kernel
theorem dX5_takesLetter_66 : decode cX5_takesLetter 66 = .ok (.iload_n 2, 1) := by decide +kernel
theorem dX5_takesLetter_67 : decode cX5_takesLetter 67 = .ok (.iastore, 1) := by decide +kernel
theorem dX5_takesLetter_68 : decode cX5_takesLetter 68 = .ok (.aload_n 0, 1) := by decide +kernel
theorem dX5_takesLetter_69 : decode cX5_takesLetter 69 = .ok (.getfield 15, 3) := by decide +kernel
theorem dX5_takesLetter_72 : decode cX5_takesLetter 72 = .ok (.aload_n 0, 1) := by decide +kernel
theorem dX5_takesLetter_73 : decode cX5_takesLetter 73 = .ok (.getfield 42, 3) := by decide +kernel
theorem dX5_takesLetter_76 : decode cX5_takesLetter 76 = .ok (.aload_n 0, 1) := by decide +kernel
theorem dX5_takesLetter_77 : decode cX5_takesLetter 77 = .ok (.getfield 48, 3) := by decide +kernel
theorem dX5_takesLetter_80 : decode cX5_takesLetter 80 = .ok (.iastore, 1) := by decide +kernel
theorem dX5_takesLetter_81 : decode cX5_takesLetter 81 = .ok (.aload_n 0, 1) := by decide +kernel
theorem dX5_takesLetter_82 : decode cX5_takesLetter 82 = .ok (.dup, 1) := by decide +kernel
theorem dX5_takesLetter_83 : decode cX5_takesLetter 83 = .ok (.getfield 42, 3) := by decide +kernel
theorem dX5_takesLetter_86 : decode cX5_takesLetter 86 = .ok (.iconst 1, 1) := by decide +kernel
theorem dX5_takesLetter_87 : decode cX5_takesLetter 87 = .ok (.iadd, 1) := by decide +kernel
theorem dX5_takesLetter_88 : decode cX5_takesLetter 88 = .ok (.putfield 42, 3) := by decide +kernel
theorem dX5_takesLetter_91 : decode cX5_takesLetter 91 = .ok (.aload_n 0, 1) := by decide +kernel
theorem dX5_takesLetter_92 : decode cX5_takesLetter 92 = .ok (.aload_n 0, 1) := by decide +kernel
theorem dX5_takesLetter_93 : decode cX5_takesLetter 93 = .ok (.getfield 48, 3) := by decide +kernel
theorem dX5_takesLetter_96 : decode cX5_takesLetter 96 = .ok (.iload_n 3, 1) := by decide +kernel
theorem dX5_takesLetter_97 : decode cX5_takesLetter 97 = .ok (.invokevirtual 60, 3) := by decide +kernel
theorem dX5_takesLetter_100 : decode cX5_takesLetter 100 = .ok (.ireturn, 1) := by decide +kernel
theorem dX5_squares_0 : decode cX5_squares 0 = .ok (.iload_n 1, 1) := by decide +kernel
theorem dX5_squares_1 : decode cX5_squares 1 = .ok (.aload_n 0, 1) := by decide +kernel
theorem dX5_squares_2 : decode cX5_squares 2 = .ok (.getfield 51, 3) := by decide +kernel
theorem dX5_squares_5 : decode cX5_squares 5 = .ok (.if_icmp .ne 19, 3) := by decide +kernel
theorem dX5_squares_8 : decode cX5_squares 8 = .ok (.aload_n 0, 1) := by decide +kernel
theorem dX5_squares_9 : decode cX5_squares 9 = .ok (.getfield 42, 3) := by decide +kernel
theorem dX5_squares_12 : decode cX5_squares 12 = .ok (.iconst 1, 1) := by decide +kernel
theorem dX5_squares_13 : decode cX5_squares 13 = .ok (.if_icmp .lt 11, 3) := by decide +kernel
theorem dX5_squares_16 : decode cX5_squares 16 = .ok (.aload_n 0, 1) := by decide +kernel
theorem dX5_squares_17 : decode cX5_squares 17 = .ok (.getfield 42, 3) := by decide +kernel
theorem dX5_squares_20 : decode cX5_squares 20 = .ok (.iconst 5, 1) := by decide +kernel
theorem dX5_squares_21 : decode cX5_squares 21 = .ok (.if_icmp .le 5, 3) := by decide +kernel
theorem dX5_squares_24 : decode cX5_squares 24 = .ok (.iconst 0, 1) := by decide +kernel
theorem dX5_squares_25 : decode cX5_squares 25 = .ok (.ireturn, 1) := by decide +kernel
theorem dX5_squares_26 : decode cX5_squares 26 = .ok (.aload_n 0, 1) := by decide +kernel
theorem dX5_squares_27 : decode cX5_squares 27 = .ok (.getfield 9, 3) := by decide +kernel
theorem dX5_squares_30 : decode cX5_squares 30 = .ok (.aload_n 0, 1) := by decide +kernel
theorem dX5_squares_31 : decode cX5_squares 31 = .ok (.getfield 42, 3) := by decide +kernel
theorem dX5_squares_34 : decode cX5_squares 34 = .ok (.iconst 1, 1) := by decide +kernel
theorem dX5_squares_35 : decode cX5_squares 35 = .ok (.isub, 1) := by decide +kernel
theorem dX5_squares_36 : decode cX5_squares 36 = .ok (.iconst 1, 1) := by decide +kernel
theorem dX5_squares_37 : decode cX5_squares 37 = .ok (.iastore, 1) := by decide +kernel
theorem dX5_squares_38 : decode cX5_squares 38 = .ok (.aload_n 0, 1) := by decide +kernel
theorem dX5_squares_39 : decode cX5_squares 39 = .ok (.aload_n 0, 1) := by decide +kernel
theorem dX5_squares_40 : decode cX5_squares 40 = .ok (.getfield 48, 3) := by decide +kernel
theorem dX5_squares_43 : decode cX5_squares 43 = .ok (.bipush 7, 2) := by decide +kernel
theorem dX5_squares_45 : decode cX5_squares 45 = .ok (.invokevirtual 60, 3) := by decide +kernel
theorem dX5_squares_48 : decode cX5_squares 48 = .ok (.ireturn, 1) := by decide +kernel
theorem dX5_followsPart_0 : decode cX5_followsPart 0 = .ok (.aload_n 0, 1) := by decide +kernel
theorem dX5_followsPart_1 : decode cX5_followsPart 1 = .ok (.getfield 42, 3) := by decide +kernel
theorem dX5_followsPart_4 : decode cX5_followsPart 4 = .ok (.iconst 1, 1) := by decide +kernel
theorem dX5_followsPart_5 : decode cX5_followsPart 5 = .ok (.if_icmp .ne 24, 3) := by decide +kernel
theorem dX5_followsPart_8 : decode cX5_followsPart 8 = .ok (.iload_n 1, 1) := by decide +kernel
theorem dX5_followsPart_9 : decode cX5_followsPart 9 = .ok (.bipush 61, 2) := by decide +kernel
theorem dX5_followsPart_11 : decode cX5_followsPart 11 = .ok (.if_icmp .ne 16, 3) := by decide +kernel
theorem dX5_followsPart_14 : decode cX5_followsPart 14 = .ok (.aload_n 0, 1) := by decide +kernel
theorem dX5_followsPart_15 : decode cX5_followsPart 15 = .ok (.iconst 1, 1) := by decide +kernel
theorem dX5_followsPart_16 : decode cX5_followsPart 16 = .ok (.iconst 1, 1) := by decide +kernel
theorem dX5_followsPart_17 : decode cX5_followsPart 17 = .ok (.invokevirtual 60, 3) := by decide +kernel
theorem dX5_followsPart_20 : decode cX5_followsPart 20 = .ok (.ifCond .eq 7, 3) := by decide +kernel
theorem dX5_followsPart_23 : decode cX5_followsPart 23 = .ok (.iconst 1, 1) := by decide +kernel
theorem dX5_followsPart_24 : decode cX5_followsPart 24 = .ok (.goto 4, 3) := by decide +kernel
theorem dX5_followsPart_27 : decode cX5_followsPart 27 = .ok (.iconst 0, 1) := by decide +kernel
theorem dX5_followsPart_28 : decode cX5_followsPart 28 = .ok (.ireturn, 1) := by decide +kernel
theorem dX5_followsPart_29 : decode cX5_followsPart 29 = .ok (.iload_n 1, 1) := by decide +kernel
theorem dX5_followsPart_30 : decode cX5_followsPart 30 = .ok (.bipush 43, 2) := by decide +kernel
theorem dX5_followsPart_32 : decode cX5_followsPart 32 = .ok (.if_icmp .ne 10, 3) := by decide +kernel
theorem dX5_followsPart_35 : decode cX5_followsPart 35 = .ok (.aload_n 0, 1) := by decide +kernel
theorem dX5_followsPart_36 : decode cX5_followsPart 36 = .ok (.iconst 1, 1) := by decide +kernel
theorem dX5_followsPart_37 : decode cX5_followsPart 37 = .ok (.iconst 3, 1) := by decide +kernel
theorem dX5_followsPart_38 : decode cX5_followsPart 38 = .ok (.invokevirtual 60, 3) := by decide +kernel
theorem dX5_followsPart_41 : decode cX5_followsPart 41 = .ok (.ireturn, 1) := by decide +kernel
theorem dX5_followsPart_42 : decode cX5_followsPart 42 = .ok (.iload_n 1, 1) := by decide +kernel
theorem dX5_followsPart_43 : decode cX5_followsPart 43 = .ok (.bipush 45, 2) := by decide +kernel
theorem dX5_followsPart_45 : decode cX5_followsPart 45 = .ok (.if_icmp .ne 10, 3) := by decide +kernel
theorem dX5_followsPart_48 : decode cX5_followsPart 48 = .ok (.aload_n 0, 1) := by decide +kernel
theorem dX5_followsPart_49 : decode cX5_followsPart 49 = .ok (.iconst (-1), 1) := by decide +kernel
theorem dX5_followsPart_50 : decode cX5_followsPart 50 = .ok (.iconst 3, 1) := by decide +kernel
theorem dX5_followsPart_51 : decode cX5_followsPart 51 = .ok (.invokevirtual 60, 3) := by decide +kernel
theorem dX5_followsPart_54 : decode cX5_followsPart 54 = .ok (.ireturn, 1) := by decide +kernel
theorem dX5_followsPart_55 : decode cX5_followsPart 55 = .ok (.iload_n 1, 1) := by decide +kernel
theorem dX5_followsPart_56 : decode cX5_followsPart 56 = .ok (.bipush 59, 2) := by decide +kernel
theorem dX5_followsPart_58 : decode cX5_followsPart 58 = .ok (.if_icmp .ne 25, 3) := by decide +kernel
theorem dX5_followsPart_61 : decode cX5_followsPart 61 = .ok (.aload_n 0, 1) := by decide +kernel
theorem dX5_followsPart_62 : decode cX5_followsPart 62 = .ok (.getfield 42, 3) := by decide +kernel
theorem dX5_followsPart_65 : decode cX5_followsPart 65 = .ok (.iconst 3, 1) := by decide +kernel
theorem dX5_followsPart_66 : decode cX5_followsPart 66 = .ok (.if_icmp .lt 17, 3) := by decide +kernel
theorem dX5_followsPart_69 : decode cX5_followsPart 69 = .ok (.aload_n 0, 1) := by decide +kernel
theorem dX5_followsPart_70 : decode cX5_followsPart 70 = .ok (.iconst 1, 1) := by decide +kernel
theorem dX5_followsPart_71 : decode cX5_followsPart 71 = .ok (.bipush 8, 2) := by decide +kernel
theorem dX5_followsPart_73 : decode cX5_followsPart 73 = .ok (.invokevirtual 60, 3) := by decide +kernel
theorem dX5_followsPart_76 : decode cX5_followsPart 76 = .ok (.ifCond .eq 7, 3) := by decide +kernel
theorem dX5_followsPart_79 : decode cX5_followsPart 79 = .ok (.iconst 1, 1) := by decide +kernel
theorem dX5_followsPart_80 : decode cX5_followsPart 80 = .ok (.goto 4, 3) := by decide +kernel
theorem dX5_followsPart_83 : decode cX5_followsPart 83 = .ok (.iconst 0, 1) := by decide +kernel
theorem dX5_followsPart_84 : decode cX5_followsPart 84 = .ok (.ireturn, 1) := by decide +kernel
theorem dX6_init_0 : decode cX6_init 0 = .ok (.aload_n 0, 1) := by decide +kernel
theorem dX6_init_1 : decode cX6_init 1 = .ok (.invokespecial 3, 3) := by decide +kernel
theorem dX6_init_4 : decode cX6_init 4 = .ok (.aload_n 0, 1) := by decide +kernel
theorem dX6_init_5 : decode cX6_init 5 = .ok (.bipush 60, 2) := by decide +kernel
theorem dX6_init_7 : decode cX6_init 7 = .ok (.newarray .int, 2) := by decide +kernel
theorem dX6_init_9 : decode cX6_init 9 = .ok (.putfield 9, 3) := by decide +kernel
theorem dX6_init_12 : decode cX6_init 12 = .ok (.aload_n 0, 1) := by decide +kernel
theorem dX6_init_13 : decode cX6_init 13 = .ok (.bipush 60, 2) := by decide +kernel
theorem dX6_init_15 : decode cX6_init 15 = .ok (.newarray .int, 2) := by decide +kernel
theorem dX6_init_17 : decode cX6_init 17 = .ok (.putfield 15, 3) := by decide +kernel
theorem dX6_init_20 : decode cX6_init 20 = .ok (.aload_n 0, 1) := by decide +kernel
theorem dX6_init_21 : decode cX6_init 21 = .ok (.bipush 60, 2) := by decide +kernel
theorem dX6_init_23 : decode cX6_init 23 = .ok (.newarray .int, 2) := by decide +kernel
theorem dX6_init_25 : decode cX6_init 25 = .ok (.putfield 18, 3) := by decide +kernel
theorem dX6_init_28 : decode cX6_init 28 = .ok (.aload_n 0, 1) := by decide +kernel
theorem dX6_init_29 : decode cX6_init 29 = .ok (.bipush 60, 2) := by decide +kernel
theorem dX6_init_31 : decode cX6_init 31 = .ok (.newarray .int, 2) := by decide +kernel
theorem dX6_init_33 : decode cX6_init 33 = .ok (.putfield 21, 3) := by decide +kernel
theorem dX6_init_36 : decode cX6_init 36 = .ok (.aload_n 0, 1) := by decide +kernel
theorem dX6_init_37 : decode cX6_init 37 = .ok (.bipush 60, 2) := by decide +kernel
theorem dX6_init_39 : decode cX6_init 39 = .ok (.newarray .int, 2) := by decide +kernel
theorem dX6_init_41 : decode cX6_init 41 = .ok (.putfield 24, 3) := by decide +kernel
theorem dX6_init_44 : decode cX6_init 44 = .ok (.aload_n 0, 1) := by decide +kernel
theorem dX6_init_45 : decode cX6_init 45 = .ok (.bipush 60, 2) := by decide +kernel
theorem dX6_init_47 : decode cX6_init 47 = .ok (.newarray .int, 2) := by decide +kernel
theorem dX6_init_49 : decode cX6_init 49 = .ok (.putfield 27, 3) := by decide +kernel
theorem dX6_init_52 : decode cX6_init 52 = .ok (.aload_n 0, 1) := by decide +kernel
theorem dX6_init_53 : decode cX6_init 53 = .ok (.bipush 19, 2) := by decide +kernel
theorem dX6_init_55 : decode cX6_init 55 = .ok (.newarray .int, 2) := by decide +kernel
theorem dX6_init_57 : decode cX6_init 57 = .ok (.putfield 30, 3) := by decide +kernel
theorem dX6_init_60 : decode cX6_init 60 = .ok (.return_, 1) := by decide +kernel
theorem dX6_isFull_0 : decode cX6_isFull 0 = .ok (.aload_n 0, 1) := by decide +kernel
theorem dX6_isFull_1 : decode cX6_isFull 1 = .ok (.getfield 33, 3) := by decide +kernel
theorem dX6_isFull_4 : decode cX6_isFull 4 = .ok (.bipush 60, 2) := by decide +kernel
theorem dX6_isFull_6 : decode cX6_isFull 6 = .ok (.if_icmp .lt 7, 3) := by decide +kernel
theorem dX6_isFull_9 : decode cX6_isFull 9 = .ok (.iconst 1, 1) := by decide +kernel
theorem dX6_isFull_10 : decode cX6_isFull 10 = .ok (.goto 4, 3) := by decide +kernel
theorem dX6_isFull_13 : decode cX6_isFull 13 = .ok (.iconst 0, 1) := by decide +kernel
theorem dX6_isFull_14 : decode cX6_isFull 14 = .ok (.ireturn, 1) := by decide +kernel
theorem dX6_has_0 : decode cX6_has 0 = .ok (.iload_n 1, 1) := by decide +kernel
theorem dX6_has_1 : decode cX6_has 1 = .ok (.ifCond .lt 15, 3) := by decide +kernel
theorem dX6_has_4 : decode cX6_has 4 = .ok (.iload_n 1, 1) := by decide +kernel
theorem dX6_has_5 : decode cX6_has 5 = .ok (.aload_n 0, 1) := by decide +kernel
theorem dX6_has_6 : decode cX6_has 6 = .ok (.getfield 33, 3) := by decide +kernel
theorem dX6_has_9 : decode cX6_has 9 = .ok (.if_icmp .ge 7, 3) := by decide +kernel
theorem dX6_has_12 : decode cX6_has 12 = .ok (.iconst 1, 1) := by decide +kernel
theorem dX6_has_13 : decode cX6_has 13 = .ok (.goto 4, 3) := by decide +kernel
theorem dX6_has_16 : decode cX6_has 16 = .ok (.iconst 0, 1) := by decide +kernel
theorem dX6_has_17 : decode cX6_has 17 = .ok (.ireturn, 1) := by decide +kernel
theorem dX6_forgetDues_0 : decode cX6_forgetDues 0 = .ok (.aload_n 0, 1) := by decide +kernel
theorem dX6_forgetDues_1 : decode cX6_forgetDues 1 = .ok (.iconst 0, 1) := by decide +kernel
theorem dX6_forgetDues_2 : decode cX6_forgetDues 2 = .ok (.putfield 37, 3) := by decide +kernel
theorem dX6_forgetDues_5 : decode cX6_forgetDues 5 = .ok (.return_, 1) := by decide +kernel
theorem dX6_add_0 : decode cX6_add 0 = .ok (.aload_n 0, 1) := by decide +kernel
theorem dX6_add_1 : decode cX6_add 1 = .ok (.invokevirtual 40, 3) := by decide +kernel
theorem dX6_add_4 : decode cX6_add 4 = .ok (.ifCond .eq 4, 3) := by decide +kernel
theorem dX6_add_7 : decode cX6_add 7 = .ok (.return_, 1) := by decide +kernel
theorem dX6_add_8 : decode cX6_add 8 = .ok (.aload_n 0, 1) := by decide +kernel
theorem dX6_add_9 : decode cX6_add 9 = .ok (.getfield 9, 3) := by decide +kernel
theorem dX6_add_12 : decode cX6_add 12 = .ok (.aload_n 0, 1) := by decide +kernel
theorem dX6_add_13 : decode cX6_add 13 = .ok (.getfield 33, 3) := by decide +kernel
theorem dX6_add_16 : decode cX6_add 16 = .ok (.iload_n 1, 1) := by decide +kernel
theorem dX6_add_17 : decode cX6_add 17 = .ok (.iastore, 1) := by decide +kernel
theorem dX6_add_18 : decode cX6_add 18 = .ok (.aload_n 0, 1) := by decide +kernel
theorem dX6_add_19 : decode cX6_add 19 = .ok (.getfield 15, 3) := by decide +kernel
theorem dX6_add_22 : decode cX6_add 22 = .ok (.aload_n 0, 1) := by decide +kernel
theorem dX6_add_23 : decode cX6_add 23 = .ok (.getfield 33, 3) := by decide +kernel
theorem dX6_add_26 : decode cX6_add 26 = .ok (.iload_n 2, 1) := by decide +kernel
theorem dX6_add_27 : decode cX6_add 27 = .ok (.iastore, 1) := by decide +kernel
theorem dX6_add_28 : decode cX6_add 28 = .ok (.aload_n 0, 1) := by decide +kernel
theorem dX6_add_29 : decode cX6_add 29 = .ok (.getfield 18, 3) := by decide +kernel
theorem dX6_add_32 : decode cX6_add 32 = .ok (.aload_n 0, 1) := by decide +kernel
theorem dX6_add_33 : decode cX6_add 33 = .ok (.getfield 33, 3) := by decide +kernel
theorem dX6_add_36 : decode cX6_add 36 = .ok (.iload_n 3, 1) := by decide +kernel
theorem dX6_add_37 : decode cX6_add 37 = .ok (.iastore, 1) := by decide +kernel
theorem dX6_add_38 : decode cX6_add 38 = .ok (.aload_n 0, 1) := by decide +kernel
theorem dX6_add_39 : decode cX6_add 39 = .ok (.getfield 21, 3) := by decide +kernel
theorem dX6_add_42 : decode cX6_add 42 = .ok (.aload_n 0, 1) := by decide +kernel
theorem dX6_add_43 : decode cX6_add 43 = .ok (.getfield 33, 3) := by decide +kernel
theorem dX6_add_46 : decode cX6_add 46 = .ok (.iload 4, 2) := by decide +kernel
theorem dX6_add_48 : decode cX6_add 48 = .ok (.iastore, 1) := by decide +kernel
theorem dX6_add_49 : decode cX6_add 49 = .ok (.aload_n 0, 1) := by decide +kernel
theorem dX6_add_50 : decode cX6_add 50 = .ok (.getfield 24, 3) := by decide +kernel
theorem dX6_add_53 : decode cX6_add 53 = .ok (.aload_n 0, 1) := by decide +kernel
theorem dX6_add_54 : decode cX6_add 54 = .ok (.getfield 33, 3) := by decide +kernel
theorem dX6_add_57 : decode cX6_add 57 = .ok (.iload 5, 2) := by decide +kernel
theorem dX6_add_59 : decode cX6_add 59 = .ok (.iastore, 1) := by decide +kernel
theorem dX6_add_60 : decode cX6_add 60 = .ok (.aload_n 0, 1) := by decide +kernel
theorem dX6_add_61 : decode cX6_add 61 = .ok (.dup, 1) := by decide +kernel
theorem dX6_add_62 : decode cX6_add 62 = .ok (.getfield 33, 3) := by decide +kernel
theorem dX6_add_65 : decode cX6_add 65 = .ok (.iconst 1, 1) := by decide +kernel
theorem dX6_add_66 : decode cX6_add 66 = .ok (.iadd, 1) := by decide +kernel
theorem dX6_add_67 : decode cX6_add 67 = .ok (.putfield 33, 3) := by decide +kernel
theorem dX6_add_70 : decode cX6_add 70 = .ok (.return_, 1) := by decide +kernel
theorem dX6_habitOf_0 : decode cX6_habitOf 0 = .ok (.aload_n 0, 1) := by decide +kernel
theorem dX6_habitOf_1 : decode cX6_habitOf 1 = .ok (.getfield 30, 3) := by decide +kernel
theorem dX6_habitOf_4 : decode cX6_habitOf 4 = .ok (.iconst 0, 1) := by decide +kernel
theorem dX6_habitOf_5 : decode cX6_habitOf 5 = .ok (.invokestatic 44, 3) := by decide +kernel
theorem dX6_habitOf_8 : decode cX6_habitOf 8 = .ok (.iconst 0, 1) := by decide +kernel
theorem dX6_habitOf_9 : decode cX6_habitOf 9 = .ok (.istore_n 2, 1) := by decide +kernel
theorem dX6_habitOf_10 : decode cX6_habitOf 10 = .ok (.iload_n 2, 1) := by decide +kernel
theorem dX6_habitOf_11 : decode cX6_habitOf 11 = .ok (.aload_n 0, 1) := by decide +kernel
theorem dX6_habitOf_12 : decode cX6_habitOf 12 = .ok (.getfield 33, 3) := by decide +kernel
theorem dX6_habitOf_15 : decode cX6_habitOf 15 = .ok (.if_icmp .ge 65, 3) := by decide +kernel
theorem dX6_habitOf_18 : decode cX6_habitOf 18 = .ok (.aload_n 0, 1) := by decide +kernel
theorem dX6_habitOf_19 : decode cX6_habitOf 19 = .ok (.getfield 21, 3) := by decide +kernel
theorem dX6_habitOf_22 : decode cX6_habitOf 22 = .ok (.iload_n 2, 1) := by decide +kernel
theorem dX6_habitOf_23 : decode cX6_habitOf 23 = .ok (.iaload, 1) := by decide +kernel
theorem dX6_habitOf_24 : decode cX6_habitOf 24 = .ok (.aload_n 0, 1) := by decide +kernel
theorem dX6_habitOf_25 : decode cX6_habitOf 25 = .ok (.getfield 27, 3) := by decide +kernel
theorem dX6_habitOf_28 : decode cX6_habitOf 28 = .ok (.iload_n 2, 1) := by decide +kernel
theorem dX6_habitOf_29 : decode cX6_habitOf 29 = .ok (.iaload, 1) := by decide +kernel
theorem dX6_habitOf_30 : decode cX6_habitOf 30 = .ok (.isub, 1) := by decide +kernel
theorem dX6_habitOf_31 : decode cX6_habitOf 31 = .ok (.istore_n 3, 1) := by decide +kernel
theorem dX6_habitOf_32 : decode cX6_habitOf 32 = .ok (.aload_n 0, 1) := by decide +kernel
theorem dX6_habitOf_33 : decode cX6_habitOf 33 = .ok (.getfield 9, 3) := by decide +kernel
theorem dX6_habitOf_36 : decode cX6_habitOf 36 = .ok (.iload_n 2, 1) := by decide +kernel
theorem dX6_habitOf_37 : decode cX6_habitOf 37 = .ok (.iaload, 1) := by decide +kernel
theorem dX6_habitOf_38 : decode cX6_habitOf 38 = .ok (.iload_n 1, 1) := by decide +kernel
theorem dX6_habitOf_39 : decode cX6_habitOf 39 = .ok (.if_icmp .ne 35, 3) := by decide +kernel
theorem dX6_habitOf_42 : decode cX6_habitOf 42 = .ok (.aload_n 0, 1) := by decide +kernel
theorem dX6_habitOf_43 : decode cX6_habitOf 43 = .ok (.getfield 27, 3) := by decide +kernel
theorem dX6_habitOf_46 : decode cX6_habitOf 46 = .ok (.iload_n 2, 1) := by decide +kernel
theorem dX6_habitOf_47 : decode cX6_habitOf 47 = .ok (.iaload, 1) := by decide +kernel
theorem dX6_habitOf_48 : decode cX6_habitOf 48 = .ok (.iconst (-1), 1) := by decide +kernel
theorem dX6_habitOf_49 : decode cX6_habitOf 49 = .ok (.if_icmp .eq 25, 3) := by decide +kernel
theorem dX6_habitOf_52 : decode cX6_habitOf 52 = .ok (.iload_n 3, 1) := by decide +kernel
theorem dX6_habitOf_53 : decode cX6_habitOf 53 = .ok (.invokestatic 50, 3) := by decide +kernel
theorem dX6_habitOf_56 : decode cX6_habitOf 56 = .ok (.bipush 9, 2) := by decide +kernel
theorem dX6_habitOf_58 : decode cX6_habitOf 58 = .ok (.if_icmp .gt 16, 3) := by decide +kernel
theorem dX6_habitOf_61 : decode cX6_habitOf 61 = .ok (.aload_n 0, 1) := by decide +kernel
theorem dX6_habitOf_62 : decode cX6_habitOf 62 = .ok (.getfield 30, 3) := by decide +kernel
theorem dX6_habitOf_65 : decode cX6_habitOf 65 = .ok (.bipush 9, 2) := by decide +kernel
theorem dX6_habitOf_67 : decode cX6_habitOf 67 = .ok (.iload_n 3, 1) := by decide +kernel
theorem dX6_habitOf_68 : decode cX6_habitOf 68 = .ok (.iadd, 1) := by decide +kernel
theorem dX6_habitOf_69 : decode cX6_habitOf 69 = .ok (.dup2, 1) := by decide +kernel
theorem dX6_habitOf_70 : decode cX6_habitOf 70 = .ok (.iaload, 1) := by decide +kernel
theorem dX6_habitOf_71 : decode cX6_habitOf 71 = .ok (.iconst 1, 1) := by decide +kernel
theorem dX6_habitOf_72 : decode cX6_habitOf 72 = .ok (.iadd, 1) := by decide +kernel
theorem dX6_habitOf_73 : decode cX6_habitOf 73 = .ok (.iastore, 1) := by decide +kernel
theorem dX6_habitOf_74 : decode cX6_habitOf 74 = .ok (.iinc 2 1, 3) := by decide +kernel
theorem dX6_habitOf_77 : decode cX6_habitOf 77 = .ok (.goto (-67), 3) := by decide +kernel
theorem dX6_habitOf_80 : decode cX6_habitOf 80 = .ok (.iconst 0, 1) := by decide +kernel
theorem dX6_habitOf_81 : decode cX6_habitOf 81 = .ok (.istore_n 2, 1) := by decide +kernel
theorem dX6_habitOf_82 : decode cX6_habitOf 82 = .ok (.iconst 1, 1) := by decide +kernel
theorem dX6_habitOf_83 : decode cX6_habitOf 83 = .ok (.istore_n 3, 1) := by decide +kernel
theorem dX6_habitOf_84 : decode cX6_habitOf 84 = .ok (.iload_n 3, 1) := by decide +kernel
theorem dX6_habitOf_85 : decode cX6_habitOf 85 = .ok (.bipush 9, 2) := by decide +kernel
theorem dX6_habitOf_87 : decode cX6_habitOf 87 = .ok (.if_icmp .gt 56, 3) := by decide +kernel
theorem dX6_habitOf_90 : decode cX6_habitOf 90 = .ok (.aload_n 0, 1) := by decide +kernel
theorem dX6_habitOf_91 : decode cX6_habitOf 91 = .ok (.getfield 30, 3) := by decide +kernel
theorem dX6_habitOf_94 : decode cX6_habitOf 94 = .ok (.bipush 9, 2) := by decide +kernel
theorem dX6_habitOf_96 : decode cX6_habitOf 96 = .ok (.iload_n 3, 1) := by decide +kernel
theorem dX6_habitOf_97 : decode cX6_habitOf 97 = .ok (.isub, 1) := by decide +kernel
theorem dX6_habitOf_98 : decode cX6_habitOf 98 = .ok (.iaload, 1) := by decide +kernel
theorem dX6_habitOf_99 : decode cX6_habitOf 99 = .ok (.aload_n 0, 1) := by decide +kernel
theorem dX6_habitOf_100 : decode cX6_habitOf 100 = .ok (.getfield 30, 3) := by decide +kernel
theorem dX6_habitOf_103 : decode cX6_habitOf 103 = .ok (.bipush 9, 2) := by decide +kernel
theorem dX6_habitOf_105 : decode cX6_habitOf 105 = .ok (.iload_n 2, 1) := by decide +kernel
theorem dX6_habitOf_106 : decode cX6_habitOf 106 = .ok (.iadd, 1) := by decide +kernel
theorem dX6_habitOf_107 : decode cX6_habitOf 107 = .ok (.iaload, 1) := by decide +kernel
theorem dX6_habitOf_108 : decode cX6_habitOf 108 = .ok (.if_icmp .le 6, 3) := by decide +kernel
theorem dX6_habitOf_111 : decode cX6_habitOf 111 = .ok (.iload_n 3, 1) := by decide +kernel
theorem dX6_habitOf_112 : decode cX6_habitOf 112 = .ok (.ineg, 1) := by decide +kernel
theorem dX6_habitOf_113 : decode cX6_habitOf 113 = .ok (.istore_n 2, 1) := by decide +kernel
theorem dX6_habitOf_114 : decode cX6_habitOf 114 = .ok (.aload_n 0, 1) := by decide +kernel
theorem dX6_habitOf_115 : decode cX6_habitOf 115 = .ok (.getfield 30, 3) := by decide +kernel
theorem dX6_habitOf_118 : decode cX6_habitOf 118 = .ok (.bipush 9, 2) := by decide +kernel
theorem dX6_habitOf_120 : decode cX6_habitOf 120 = .ok (.iload_n 3, 1) := by decide +kernel
theorem dX6_habitOf_121 : decode cX6_habitOf 121 = .ok (.iadd, 1) := by decide +kernel
theorem dX6_habitOf_122 : decode cX6_habitOf 122 = .ok (.iaload, 1) := by decide +kernel
theorem dX6_habitOf_123 : decode cX6_habitOf 123 = .ok (.aload_n 0, 1) := by decide +kernel
theorem dX6_habitOf_124 : decode cX6_habitOf 124 = .ok (.getfield 30, 3) := by decide +kernel
theorem dX6_habitOf_127 : decode cX6_habitOf 127 = .ok (.bipush 9, 2) := by decide +kernel
theorem dX6_habitOf_129 : decode cX6_habitOf 129 = .ok (.iload_n 2, 1) := by decide +kernel
theorem dX6_habitOf_130 : decode cX6_habitOf 130 = .ok (.iadd, 1) := by decide +kernel
theorem dX6_habitOf_131 : decode cX6_habitOf 131 = .ok (.iaload, 1) := by decide +kernel
theorem dX6_habitOf_132 : decode cX6_habitOf 132 = .ok (.if_icmp .le 5, 3) := by decide +kernel
theorem dX6_habitOf_135 : decode cX6_habitOf 135 = .ok (.iload_n 3, 1) := by decide +kernel
theorem dX6_habitOf_136 : decode cX6_habitOf 136 = .ok (.istore_n 2, 1) := by decide +kernel
theorem dX6_habitOf_137 : decode cX6_habitOf 137 = .ok (.iinc 3 1, 3) := by decide +kernel
theorem dX6_habitOf_140 : decode cX6_habitOf 140 = .ok (.goto (-56), 3) := by decide +kernel
theorem dX6_habitOf_143 : decode cX6_habitOf 143 = .ok (.iload_n 2, 1) := by decide +kernel
theorem dX6_habitOf_144 : decode cX6_habitOf 144 = .ok (.ireturn, 1) := by decide +kernel
theorem dX6_isBad_0 : decode cX6_isBad 0 = .ok (.aload_n 0, 1) := by decide +kernel
theorem dX6_isBad_1 : decode cX6_isBad 1 = .ok (.iload_n 1, 1) := by decide +kernel
theorem dX6_isBad_2 : decode cX6_isBad 2 = .ok (.invokevirtual 56, 3) := by decide +kernel
theorem dX6_isBad_5 : decode cX6_isBad 5 = .ok (.ifCond .eq 13, 3) := by decide +kernel
theorem dX6_isBad_8 : decode cX6_isBad 8 = .ok (.aload_n 0, 1) := by decide +kernel
theorem dX6_isBad_9 : decode cX6_isBad 9 = .ok (.getfield 27, 3) := by decide +kernel
theorem dX6_isBad_12 : decode cX6_isBad 12 = .ok (.iload_n 1, 1) := by decide +kernel
theorem dX6_isBad_13 : decode cX6_isBad 13 = .ok (.iaload, 1) := by decide +kernel
theorem dX6_isBad_14 : decode cX6_isBad 14 = .ok (.iconst (-1), 1) := by decide +kernel
theorem dX6_isBad_15 : decode cX6_isBad 15 = .ok (.if_icmp .ne 5, 3) := by decide +kernel
theorem dX6_isBad_18 : decode cX6_isBad 18 = .ok (.iconst 0, 1) := by decide +kernel
theorem dX6_isBad_19 : decode cX6_isBad 19 = .ok (.ireturn, 1) := by decide +kernel
theorem dX6_isBad_20 : decode cX6_isBad 20 = .ok (.aload_n 0, 1) := by decide +kernel
theorem dX6_isBad_21 : decode cX6_isBad 21 = .ok (.getfield 27, 3) := by decide +kernel
theorem dX6_isBad_24 : decode cX6_isBad 24 = .ok (.iload_n 1, 1) := by decide +kernel
theorem dX6_isBad_25 : decode cX6_isBad 25 = .ok (.iaload, 1) := by decide +kernel
theorem dX6_isBad_26 : decode cX6_isBad 26 = .ok (.aload_n 0, 1) := by decide +kernel
theorem dX6_isBad_27 : decode cX6_isBad 27 = .ok (.aload_n 0, 1) := by decide +kernel
theorem dX6_isBad_28 : decode cX6_isBad 28 = .ok (.getfield 9, 3) := by decide +kernel
theorem dX6_isBad_31 : decode cX6_isBad 31 = .ok (.iload_n 1, 1) := by decide +kernel
theorem dX6_isBad_32 : decode cX6_isBad 32 = .ok (.iaload, 1) := by decide +kernel
theorem dX6_isBad_33 : decode cX6_isBad 33 = .ok (.invokevirtual 60, 3) := by decide +kernel
theorem dX6_isBad_36 : decode cX6_isBad 36 = .ok (.iadd, 1) := by decide +kernel
theorem dX6_isBad_37 : decode cX6_isBad 37 = .ok (.istore_n 3, 1) := by decide +kernel
theorem dX6_isBad_38 : decode cX6_isBad 38 = .ok (.aload_n 0, 1) := by decide +kernel
theorem dX6_isBad_39 : decode cX6_isBad 39 = .ok (.getfield 21, 3) := by decide +kernel
theorem dX6_isBad_42 : decode cX6_isBad 42 = .ok (.iload_n 1, 1) := by decide +kernel
theorem dX6_isBad_43 : decode cX6_isBad 43 = .ok (.iaload, 1) := by decide +kernel
theorem dX6_isBad_44 : decode cX6_isBad 44 = .ok (.iload_n 3, 1) := by decide +kernel
theorem dX6_isBad_45 : decode cX6_isBad 45 = .ok (.isub, 1) := by decide +kernel
theorem dX6_isBad_46 : decode cX6_isBad 46 = .ok (.invokestatic 50, 3) := by decide +kernel
theorem dX6_isBad_49 : decode cX6_isBad 49 = .ok (.iload_n 2, 1) := by decide +kernel
theorem dX6_isBad_50 : decode cX6_isBad 50 = .ok (.if_icmp .le 7, 3) := by decide +kernel
theorem dX6_isBad_53 : decode cX6_isBad 53 = .ok (.iconst 1, 1) := by decide +kernel
theorem dX6_isBad_54 : decode cX6_isBad 54 = .ok (.goto 4, 3) := by decide +kernel
theorem dX6_isBad_57 : decode cX6_isBad 57 = .ok (.iconst 0, 1) := by decide +kernel
theorem dX6_isBad_58 : decode cX6_isBad 58 = .ok (.ireturn, 1) := by decide +kernel
theorem dX7_init_0 : decode cX7_init 0 = .ok (.aload_n 0, 1) := by decide +kernel
theorem dX7_init_1 : decode cX7_init 1 = .ok (.invokespecial 3, 3) := by decide +kernel
theorem dX7_init_4 : decode cX7_init 4 = .ok (.aload_n 0, 1) := by decide +kernel
theorem dX7_init_5 : decode cX7_init 5 = .ok (.aload_n 1, 1) := by decide +kernel
theorem dX7_init_6 : decode cX7_init 6 = .ok (.getfield 9, 3) := by decide +kernel
theorem dX7_init_9 : decode cX7_init 9 = .ok (.putfield 15, 3) := by decide +kernel
theorem dX7_init_12 : decode cX7_init 12 = .ok (.aload_n 0, 1) := by decide +kernel
theorem dX7_init_13 : decode cX7_init 13 = .ok (.aload_n 1, 1) := by decide +kernel
theorem dX7_init_14 : decode cX7_init 14 = .ok (.getfield 18, 3) := by decide +kernel
theorem dX7_init_17 : decode cX7_init 17 = .ok (.putfield 21, 3) := by decide +kernel
theorem dX7_init_20 : decode cX7_init 20 = .ok (.aload_n 0, 1) := by decide +kernel
theorem dX7_init_21 : decode cX7_init 21 = .ok (.aload_n 1, 1) := by decide +kernel
theorem dX7_init_22 : decode cX7_init 22 = .ok (.getfield 22, 3) := by decide +kernel
theorem dX7_init_25 : decode cX7_init 25 = .ok (.invokevirtual 26, 3) := by decide +kernel
theorem dX7_init_28 : decode cX7_init 28 = .ok (.checkcast 27, 3) := by decide +kernel
theorem dX7_init_31 : decode cX7_init 31 = .ok (.putfield 31, 3) := by decide +kernel
theorem dX7_init_34 : decode cX7_init 34 = .ok (.aload_n 0, 1) := by decide +kernel
theorem dX7_init_35 : decode cX7_init 35 = .ok (.aload_n 1, 1) := by decide +kernel
theorem dX7_init_36 : decode cX7_init 36 = .ok (.getfield 32, 3) := by decide +kernel
theorem dX7_init_39 : decode cX7_init 39 = .ok (.invokevirtual 26, 3) := by decide +kernel
theorem dX7_init_42 : decode cX7_init 42 = .ok (.checkcast 27, 3) := by decide +kernel
theorem dX7_init_45 : decode cX7_init 45 = .ok (.putfield 35, 3) := by decide +kernel
theorem dX7_init_48 : decode cX7_init 48 = .ok (.aload_n 0, 1) := by decide +kernel
theorem dX7_init_49 : decode cX7_init 49 = .ok (.iconst 5, 1) := by decide +kernel
theorem dX7_init_50 : decode cX7_init 50 = .ok (.newarray .int, 2) := by decide +kernel
theorem dX7_init_52 : decode cX7_init 52 = .ok (.putfield 36, 3) := by decide +kernel
theorem dX7_init_55 : decode cX7_init 55 = .ok (.aload_n 0, 1) := by decide +kernel
theorem dX7_init_56 : decode cX7_init 56 = .ok (.iconst 5, 1) := by decide +kernel
theorem dX7_init_57 : decode cX7_init 57 = .ok (.bipush 40, 2) := by decide +kernel
theorem dX7_init_59 : decode cX7_init 59 = .ok (.multianewarray 39 2, 4) := by decide +kernel
theorem dX7_init_63 : decode cX7_init 63 = .ok (.putfield 41, 3) := by decide +kernel
theorem dX7_init_66 : decode cX7_init 66 = .ok (.aload_n 0, 1) := by decide +kernel
theorem dX7_init_67 : decode cX7_init 67 = .ok (.bipush 40, 2) := by decide +kernel
theorem dX7_init_69 : decode cX7_init 69 = .ok (.newarray .int, 2) := by decide +kernel
theorem dX7_init_71 : decode cX7_init 71 = .ok (.putfield 44, 3) := by decide +kernel
theorem dX7_init_74 : decode cX7_init 74 = .ok (.return_, 1) := by decide +kernel
theorem dX7_hasTerm_0 : decode cX7_hasTerm 0 = .ok (.iload_n 1, 1) := by decide +kernel
theorem dX7_hasTerm_1 : decode cX7_hasTerm 1 = .ok (.ifCond .lt 20, 3) := by decide +kernel
theorem dX7_hasTerm_4 : decode cX7_hasTerm 4 = .ok (.iload_n 1, 1) := by decide +kernel
theorem dX7_hasTerm_5 : decode cX7_hasTerm 5 = .ok (.aload_n 0, 1) := by decide +kernel
theorem dX7_hasTerm_6 : decode cX7_hasTerm 6 = .ok (.getfield 15, 3) := by decide +kernel
theorem dX7_hasTerm_9 : decode cX7_hasTerm 9 = .ok (.if_icmp .ge 12, 3) := by decide +kernel
theorem dX7_hasTerm_12 : decode cX7_hasTerm 12 = .ok (.iload_n 1, 1) := by decide +kernel
theorem dX7_hasTerm_13 : decode cX7_hasTerm 13 = .ok (.iconst 5, 1) := by decide +kernel
theorem dX7_hasTerm_14 : decode cX7_hasTerm 14 = .ok (.if_icmp .ge 7, 3) := by decide +kernel
theorem dX7_hasTerm_17 : decode cX7_hasTerm 17 = .ok (.iconst 1, 1) := by decide +kernel
theorem dX7_hasTerm_18 : decode cX7_hasTerm 18 = .ok (.goto 4, 3) := by decide +kernel
theorem dX7_hasTerm_21 : decode cX7_hasTerm 21 = .ok (.iconst 0, 1) := by decide +kernel
theorem dX7_hasTerm_22 : decode cX7_hasTerm 22 = .ok (.ireturn, 1) := by decide +kernel
theorem dX7_kindOf_0 : decode cX7_kindOf 0 = .ok (.aload_n 0, 1) := by decide +kernel
theorem dX7_kindOf_1 : decode cX7_kindOf 1 = .ok (.iload_n 1, 1) := by decide +kernel
theorem dX7_kindOf_2 : decode cX7_kindOf 2 = .ok (.invokevirtual 47, 3) := by decide +kernel
theorem dX7_kindOf_5 : decode cX7_kindOf 5 = .ok (.ifCond .eq 12, 3) := by decide +kernel
theorem dX7_kindOf_8 : decode cX7_kindOf 8 = .ok (.aload_n 0, 1) := by decide +kernel
theorem dX7_kindOf_9 : decode cX7_kindOf 9 = .ok (.getfield 31, 3) := by decide +kernel
theorem dX7_kindOf_12 : decode cX7_kindOf 12 = .ok (.iload_n 1, 1) := by decide +kernel
theorem dX7_kindOf_13 : decode cX7_kindOf 13 = .ok (.iaload, 1) := by decide +kernel
theorem dX7_kindOf_14 : decode cX7_kindOf 14 = .ok (.goto 5, 3) := by decide +kernel
theorem dX7_kindOf_17 : decode cX7_kindOf 17 = .ok (.ldc 51, 2) := by decide +kernel
theorem dX7_kindOf_19 : decode cX7_kindOf 19 = .ok (.ireturn, 1) := by decide +kernel
theorem dX7_signOf_0 : decode cX7_signOf 0 = .ok (.aload_n 0, 1) := by decide +kernel
theorem dX7_signOf_1 : decode cX7_signOf 1 = .ok (.iload_n 1, 1) := by decide +kernel
theorem dX7_signOf_2 : decode cX7_signOf 2 = .ok (.invokevirtual 47, 3) := by decide +kernel
theorem dX7_signOf_5 : decode cX7_signOf 5 = .ok (.ifCond .eq 12, 3) := by decide +kernel
theorem dX7_signOf_8 : decode cX7_signOf 8 = .ok (.aload_n 0, 1) := by decide +kernel
theorem dX7_signOf_9 : decode cX7_signOf 9 = .ok (.getfield 35, 3) := by decide +kernel
theorem dX7_signOf_12 : decode cX7_signOf 12 = .ok (.iload_n 1, 1) := by decide +kernel
theorem dX7_signOf_13 : decode cX7_signOf 13 = .ok (.iaload, 1) := by decide +kernel
theorem dX7_signOf_14 : decode cX7_signOf 14 = .ok (.goto 5, 3) := by decide +kernel
theorem dX7_signOf_17 : decode cX7_signOf 17 = .ok (.ldc 51, 2) := by decide +kernel
theorem dX7_signOf_19 : decode cX7_signOf 19 = .ok (.ireturn, 1) := by decide +kernel
theorem dX7_canRange_0 : decode cX7_canRange 0 = .ok (.aload_n 0, 1) := by decide +kernel
theorem dX7_canRange_1 : decode cX7_canRange 1 = .ok (.iload_n 1, 1) := by decide +kernel
theorem dX7_canRange_2 : decode cX7_canRange 2 = .ok (.invokevirtual 47, 3) := by decide +kernel
theorem dX7_canRange_5 : decode cX7_canRange 5 = .ok (.ifCond .eq 12, 3) := by decide +kernel
theorem dX7_canRange_8 : decode cX7_canRange 8 = .ok (.aload_n 0, 1) := by decide +kernel
theorem dX7_canRange_9 : decode cX7_canRange 9 = .ok (.getfield 36, 3) := by decide +kernel
theorem dX7_canRange_12 : decode cX7_canRange 12 = .ok (.iload_n 1, 1) := by decide +kernel
theorem dX7_canRange_13 : decode cX7_canRange 13 = .ok (.iaload, 1) := by decide +kernel
theorem dX7_canRange_14 : decode cX7_canRange 14 = .ok (.ifCond .eq 5, 3) := by decide +kernel
theorem dX7_canRange_17 : decode cX7_canRange 17 = .ok (.iconst 0, 1) := by decide +kernel
theorem dX7_canRange_18 : decode cX7_canRange 18 = .ok (.ireturn, 1) := by decide +kernel
theorem dX7_canRange_19 : decode cX7_canRange 19 = .ok (.iload_n 3, 1) := by decide +kernel
theorem dX7_canRange_20 : decode cX7_canRange 20 = .ok (.iconst 1, 1) := by decide +kernel
theorem dX7_canRange_21 : decode cX7_canRange 21 = .ok (.if_icmp .lt 23, 3) := by decide +kernel
theorem dX7_canRange_24 : decode cX7_canRange 24 = .ok (.iload_n 3, 1) := by decide +kernel
theorem dX7_canRange_25 : decode cX7_canRange 25 = .ok (.sipush 500, 3) := by decide +kernel
theorem dX7_canRange_28 : decode cX7_canRange 28 = .ok (.if_icmp .gt 16, 3) := by decide +kernel
theorem dX7_canRange_31 : decode cX7_canRange 31 = .ok (.iload 4, 2) := by decide +kernel
theorem dX7_canRange_33 : decode cX7_canRange 33 = .ok (.iconst 2, 1) := by decide +kernel
theorem dX7_canRange_34 : decode cX7_canRange 34 = .ok (.if_icmp .lt 10, 3) := by decide +kernel
theorem dX7_canRange_37 : decode cX7_canRange 37 = .ok (.iload 4, 2) := by decide +kernel
theorem dX7_canRange_39 : decode cX7_canRange 39 = .ok (.bipush 40, 2) := by decide +kernel
theorem dX7_canRange_41 : decode cX7_canRange 41 = .ok (.if_icmp .le 5, 3) := by decide +kernel
theorem dX7_canRange_44 : decode cX7_canRange 44 = .ok (.iconst 0, 1) := by decide +kernel
theorem dX7_canRange_45 : decode cX7_canRange 45 = .ok (.ireturn, 1) := by decide +kernel
theorem dX7_canRange_46 : decode cX7_canRange 46 = .ok (.iload_n 2, 1) := by decide +kernel
theorem dX7_canRange_47 : decode cX7_canRange 47 = .ok (.i2l, 1) := by decide +kernel
theorem dX7_canRange_48 : decode cX7_canRange 48 = .ok (.iload_n 3, 1) := by decide +kernel
theorem dX7_canRange_49 : decode cX7_canRange 49 = .ok (.i2l, 1) := by decide +kernel
theorem dX7_canRange_50 : decode cX7_canRange 50 = .ok (.iload 4, 2) := by decide +kernel
theorem dX7_canRange_52 : decode cX7_canRange 52 = .ok (.iconst 1, 1) := by decide +kernel
theorem dX7_canRange_53 : decode cX7_canRange 53 = .ok (.isub, 1) := by decide +kernel
theorem dX7_canRange_54 : decode cX7_canRange 54 = .ok (.i2l, 1) := by decide +kernel
theorem dX7_canRange_55 : decode cX7_canRange 55 = .ok (.lmul, 1) := by decide +kernel
theorem dX7_canRange_56 : decode cX7_canRange 56 = .ok (.ladd, 1) := by decide +kernel
theorem dX7_canRange_57 : decode cX7_canRange 57 = .ok (.lstore 5, 2) := by decide +kernel
theorem dX7_canRange_59 : decode cX7_canRange 59 = .ok (.iload_n 2, 1) := by decide +kernel
theorem dX7_canRange_60 : decode cX7_canRange 60 = .ok (.aload_n 0, 1) := by decide +kernel
theorem dX7_canRange_61 : decode cX7_canRange 61 = .ok (.getfield 31, 3) := by decide +kernel
theorem dX7_canRange_64 : decode cX7_canRange 64 = .ok (.iload_n 1, 1) := by decide +kernel
theorem dX7_canRange_65 : decode cX7_canRange 65 = .ok (.iaload, 1) := by decide +kernel
theorem dX7_canRange_66 : decode cX7_canRange 66 = .ok (.invokestatic 52, 3) := by decide +kernel
theorem dX7_canRange_69 : decode cX7_canRange 69 = .ok (.if_icmp .lt 23, 3) := by decide +kernel
theorem dX7_canRange_72 : decode cX7_canRange 72 = .ok (.lload 5, 2) := by decide +kernel
theorem dX7_canRange_74 : decode cX7_canRange 74 = .ok (.aload_n 0, 1) := by decide +kernel
theorem dX7_canRange_75 : decode cX7_canRange 75 = .ok (.getfield 31, 3) := by decide +kernel
theorem dX7_canRange_78 : decode cX7_canRange 78 = .ok (.iload_n 1, 1) := by decide +kernel
theorem dX7_canRange_79 : decode cX7_canRange 79 = .ok (.iaload, 1) := by decide +kernel
theorem dX7_canRange_80 : decode cX7_canRange 80 = .ok (.invokestatic 56, 3) := by decide +kernel
theorem dX7_canRange_83 : decode cX7_canRange 83 = .ok (.i2l, 1) := by decide +kernel
theorem dX7_canRange_84 : decode cX7_canRange 84 = .ok (.lcmp, 1) := by decide +kernel
theorem dX7_canRange_85 : decode cX7_canRange 85 = .ok (.ifCond .gt 7, 3) := by decide +kernel
theorem dX7_canRange_88 : decode cX7_canRange 88 = .ok (.iconst 1, 1) := by decide +kernel
theorem dX7_canRange_89 : decode cX7_canRange 89 = .ok (.goto 4, 3) := by decide +kernel
theorem dX7_canRange_92 : decode cX7_canRange 92 = .ok (.iconst 0, 1) := by decide +kernel
theorem dX7_canRange_93 : decode cX7_canRange 93 = .ok (.ireturn, 1) := by decide +kernel
theorem dX7_putRange_0 : decode cX7_putRange 0 = .ok (.aload_n 0, 1) := by decide +kernel
theorem dX7_putRange_1 : decode cX7_putRange 1 = .ok (.iload_n 1, 1) := by decide +kernel
theorem dX7_putRange_2 : decode cX7_putRange 2 = .ok (.iload_n 2, 1) := by decide +kernel
theorem dX7_putRange_3 : decode cX7_putRange 3 = .ok (.iload_n 3, 1) := by decide +kernel
theorem dX7_putRange_4 : decode cX7_putRange 4 = .ok (.iload 4, 2) := by decide +kernel
theorem dX7_putRange_6 : decode cX7_putRange 6 = .ok (.invokevirtual 59, 3) := by decide +kernel
theorem dX7_putRange_9 : decode cX7_putRange 9 = .ok (.ifCond .ne 4, 3) := by decide +kernel
theorem dX7_putRange_12 : decode cX7_putRange 12 = .ok (.return_, 1) := by decide +kernel
theorem dX7_putRange_13 : decode cX7_putRange 13 = .ok (.iconst 0, 1) := by decide +kernel
theorem dX7_putRange_14 : decode cX7_putRange 14 = .ok (.istore 5, 2) := by decide +kernel
theorem dX7_putRange_16 : decode cX7_putRange 16 = .ok (.iload 5, 2) := by decide +kernel
theorem dX7_putRange_18 : decode cX7_putRange 18 = .ok (.iload 4, 2) := by decide +kernel
theorem dX7_putRange_20 : decode cX7_putRange 20 = .ok (.if_icmp .ge 50, 3) := by decide +kernel
theorem dX7_putRange_23 : decode cX7_putRange 23 = .ok (.aload_n 0, 1) := by decide +kernel
theorem dX7_putRange_24 : decode cX7_putRange 24 = .ok (.getfield 41, 3) := by decide +kernel
theorem dX7_putRange_27 : decode cX7_putRange 27 = .ok (.iload_n 1, 1) := by decide +kernel
theorem dX7_putRange_28 : decode cX7_putRange 28 = .ok (.aaload, 1) := by decide +kernel
theorem dX7_putRange_29 : decode cX7_putRange 29 = .ok (.iload 5, 2) := by decide +kernel
theorem dX7_putRange_31 : decode cX7_putRange 31 = .ok (.aload_n 0, 1) := by decide +kernel
theorem dX7_putRange_32 : decode cX7_putRange 32 = .ok (.getfield 31, 3) := by decide +kernel
theorem dX7_putRange_35 : decode cX7_putRange 35 = .ok (.iload_n 1, 1) := by decide +kernel
theorem dX7_putRange_36 : decode cX7_putRange 36 = .ok (.iaload, 1) := by decide +kernel
theorem dX7_putRange_37 : decode cX7_putRange 37 = .ok (.iload_n 2, 1) := by decide +kernel
theorem dX7_putRange_38 : decode cX7_putRange 38 = .ok (.iload_n 3, 1) := by decide +kernel
theorem dX7_putRange_39 : decode cX7_putRange 39 = .ok (.iload 5, 2) := by decide +kernel
theorem dX7_putRange_41 : decode cX7_putRange 41 = .ok (.imul, 1) := by decide +kernel
theorem dX7_putRange_42 : decode cX7_putRange 42 = .ok (.iadd, 1) := by decide +kernel
theorem dX7_putRange_43 : decode cX7_putRange 43 = .ok (.invokestatic 63, 3) := by decide +kernel
theorem dX7_putRange_46 : decode cX7_putRange 46 = .ok (.iastore, 1) := by decide +kernel
theorem dX7_putRange_47 : decode cX7_putRange 47 = .ok (.iload_n 1, 1) := by decide +kernel
theorem dX7_putRange_48 : decode cX7_putRange 48 = .ok (.ifCond .ne 16, 3) := by decide +kernel
theorem dX7_putRange_51 : decode cX7_putRange 51 = .ok (.aload_n 0, 1) := by decide +kernel
theorem dX7_putRange_52 : decode cX7_putRange 52 = .ok (.aload_n 0, 1) := by decide +kernel
theorem dX7_putRange_53 : decode cX7_putRange 53 = .ok (.getfield 41, 3) := by decide +kernel
theorem dX7_putRange_56 : decode cX7_putRange 56 = .ok (.iload_n 1, 1) := by decide +kernel
theorem dX7_putRange_57 : decode cX7_putRange 57 = .ok (.aaload, 1) := by decide +kernel
theorem dX7_putRange_58 : decode cX7_putRange 58 = .ok (.iload 5, 2) := by decide +kernel
theorem dX7_putRange_60 : decode cX7_putRange 60 = .ok (.iaload, 1) := by decide +kernel
theorem dX7_putRange_61 : decode cX7_putRange 61 = .ok (.invokevirtual 67, 3) := by decide +kernel
theorem dX7_putRange_64 : decode cX7_putRange 64 = .ok (.iinc 5 1, 3) := by decide +kernel
theorem dX7_putRange_67 : decode cX7_putRange 67 = .ok (.goto (-51), 3) := by decide +kernel
theorem dX7_putRange_70 : decode cX7_putRange 70 = .ok (.aload_n 0, 1) := by decide +kernel
theorem dX7_putRange_71 : decode cX7_putRange 71 = .ok (.getfield 36, 3) := by decide +kernel
theorem dX7_putRange_74 : decode cX7_putRange 74 = .ok (.iload_n 1, 1) := by decide +kernel
theorem dX7_putRange_75 : decode cX7_putRange 75 = .ok (.iload 4, 2) := by decide +kernel
theorem dX7_putRange_77 : decode cX7_putRange 77 = .ok (.iastore, 1) := by decide +kernel
theorem dX7_putRange_78 : decode cX7_putRange 78 = .ok (.return_, 1) := by decide +kernel
theorem dX7_putOnScale_0 : decode cX7_putOnScale 0 = .ok (.iconst 0, 1) := by decide +kernel
theorem dX7_putOnScale_1 : decode cX7_putOnScale 1 = .ok (.istore_n 2, 1) := by decide +kernel
theorem dX7_putOnScale_2 : decode cX7_putOnScale 2 = .ok (.iload_n 2, 1) := by decide +kernel
theorem dX7_putOnScale_3 : decode cX7_putOnScale 3 = .ok (.aload_n 0, 1) := by decide +kernel
theorem dX7_putOnScale_4 : decode cX7_putOnScale 4 = .ok (.getfield 71, 3) := by decide +kernel
theorem dX7_putOnScale_7 : decode cX7_putOnScale 7 = .ok (.if_icmp .ge 19, 3) := by decide +kernel
theorem dX7_putOnScale_10 : decode cX7_putOnScale 10 = .ok (.aload_n 0, 1) := by decide +kernel
theorem dX7_putOnScale_11 : decode cX7_putOnScale 11 = .ok (.getfield 44, 3) := by decide +kernel
theorem dX7_putOnScale_14 : decode cX7_putOnScale 14 = .ok (.iload_n 2, 1) := by decide +kernel
theorem dX7_putOnScale_15 : decode cX7_putOnScale 15 = .ok (.iaload, 1) := by decide +kernel
theorem dX7_putOnScale_16 : decode cX7_putOnScale 16 = .ok (.iload_n 1, 1) := by decide +kernel
theorem dX7_putOnScale_17 : decode cX7_putOnScale 17 = .ok (.if_icmp .ge 9, 3) := by decide +kernel
theorem dX7_putOnScale_20 : decode cX7_putOnScale 20 = .ok (.iinc 2 1, 3) := by decide +kernel
theorem dX7_putOnScale_23 : decode cX7_putOnScale 23 = .ok (.goto (-21), 3) := by decide +kernel
theorem dX7_putOnScale_26 : decode cX7_putOnScale 26 = .ok (.aload_n 0, 1) := by decide +kernel
theorem dX7_putOnScale_27 : decode cX7_putOnScale 27 = .ok (.getfield 71, 3) := by decide +kernel
theorem dX7_putOnScale_30 : decode cX7_putOnScale 30 = .ok (.aload_n 0, 1) := by decide +kernel
theorem dX7_putOnScale_31 : decode cX7_putOnScale 31 = .ok (.getfield 44, 3) := by decide +kernel
theorem dX7_putOnScale_34 : decode cX7_putOnScale 34 = .ok (.arraylength, 1) := by decide +kernel
theorem dX7_putOnScale_35 : decode cX7_putOnScale 35 = .ok (.if_icmp .ge 21, 3) := by decide +kernel
theorem dX7_putOnScale_38 : decode cX7_putOnScale 38 = .ok (.iload_n 2, 1) := by decide +kernel
theorem dX7_putOnScale_39 : decode cX7_putOnScale 39 = .ok (.aload_n 0, 1) := by decide +kernel
theorem dX7_putOnScale_40 : decode cX7_putOnScale 40 = .ok (.getfield 71, 3) := by decide +kernel
theorem dX7_putOnScale_43 : decode cX7_putOnScale 43 = .ok (.if_icmp .ge 14, 3) := by decide +kernel
theorem dX7_putOnScale_46 : decode cX7_putOnScale 46 = .ok (.aload_n 0, 1) := by decide +kernel
theorem dX7_putOnScale_47 : decode cX7_putOnScale 47 = .ok (.getfield 44, 3) := by decide +kernel
theorem dX7_putOnScale_50 : decode cX7_putOnScale 50 = .ok (.iload_n 2, 1) := by decide +kernel
theorem dX7_putOnScale_51 : decode cX7_putOnScale 51 = .ok (.iaload, 1) := by decide +kernel
theorem dX7_putOnScale_52 : decode cX7_putOnScale 52 = .ok (.iload_n 1, 1) := by decide +kernel
theorem dX7_putOnScale_53 : decode cX7_putOnScale 53 = .ok (.if_icmp .ne 4, 3) := by decide +kernel
theorem dX7_putOnScale_56 : decode cX7_putOnScale 56 = .ok (.return_, 1) := by decide +kernel
theorem dX7_putOnScale_57 : decode cX7_putOnScale 57 = .ok (.aload_n 0, 1) := by decide +kernel
theorem dX7_putOnScale_58 : decode cX7_putOnScale 58 = .ok (.getfield 71, 3) := by decide +kernel
theorem dX7_putOnScale_61 : decode cX7_putOnScale 61 = .ok (.istore_n 3, 1) := by decide +kernel
theorem dX7_putOnScale_62 : decode cX7_putOnScale 62 = .ok (.iload_n 3, 1) := by decide +kernel
theorem dX7_putOnScale_63 : decode cX7_putOnScale 63 = .ok (.iload_n 2, 1) := by decide +kernel
theorem dX7_putOnScale_64 : decode cX7_putOnScale 64 = .ok (.if_icmp .le 23, 3) := by decide +kernel
theorem dX7_putOnScale_67 : decode cX7_putOnScale 67 = .ok (.aload_n 0, 1) := by decide +kernel
theorem dX7_putOnScale_68 : decode cX7_putOnScale 68 = .ok (.getfield 44, 3) := by decide +kernel
theorem dX7_putOnScale_71 : decode cX7_putOnScale 71 = .ok (.iload_n 3, 1) := by decide +kernel
theorem dX7_putOnScale_72 : decode cX7_putOnScale 72 = .ok (.aload_n 0, 1) := by decide +kernel
theorem dX7_putOnScale_73 : decode cX7_putOnScale 73 = .ok (.getfield 44, 3) := by decide +kernel
theorem dX7_putOnScale_76 : decode cX7_putOnScale 76 = .ok (.iload_n 3, 1) := by decide +kernel
theorem dX7_putOnScale_77 : decode cX7_putOnScale 77 = .ok (.iconst 1, 1) := by decide +kernel
theorem dX7_putOnScale_78 : decode cX7_putOnScale 78 = .ok (.isub, 1) := by decide +kernel
theorem dX7_putOnScale_79 : decode cX7_putOnScale 79 = .ok (.iaload, 1) := by decide +kernel
theorem dX7_putOnScale_80 : decode cX7_putOnScale 80 = .ok (.iastore, 1) := by decide +kernel
theorem dX7_putOnScale_81 : decode cX7_putOnScale 81 = .ok (.iinc 3 (-1), 3) := by decide +kernel
theorem dX7_putOnScale_84 : decode cX7_putOnScale 84 = .ok (.goto (-22), 3) := by decide +kernel
theorem dX7_putOnScale_87 : decode cX7_putOnScale 87 = .ok (.aload_n 0, 1) := by decide +kernel
theorem dX7_putOnScale_88 : decode cX7_putOnScale 88 = .ok (.getfield 44, 3) := by decide +kernel
theorem dX7_putOnScale_91 : decode cX7_putOnScale 91 = .ok (.iload_n 2, 1) := by decide +kernel
theorem dX7_putOnScale_92 : decode cX7_putOnScale 92 = .ok (.iload_n 1, 1) := by decide +kernel
theorem dX7_putOnScale_93 : decode cX7_putOnScale 93 = .ok (.iastore, 1) := by decide +kernel
theorem dX7_putOnScale_94 : decode cX7_putOnScale 94 = .ok (.aload_n 0, 1) := by decide +kernel
theorem dX7_putOnScale_95 : decode cX7_putOnScale 95 = .ok (.dup, 1) := by decide +kernel
theorem dX7_putOnScale_96 : decode cX7_putOnScale 96 = .ok (.getfield 71, 3) := by decide +kernel
theorem dX7_putOnScale_99 : decode cX7_putOnScale 99 = .ok (.iconst 1, 1) := by decide +kernel
theorem dX7_putOnScale_100 : decode cX7_putOnScale 100 = .ok (.iadd, 1) := by decide +kernel
theorem dX7_putOnScale_101 : decode cX7_putOnScale 101 = .ok (.putfield 71, 3) := by decide +kernel
theorem dX7_putOnScale_104 : decode cX7_putOnScale 104 = .ok (.return_, 1) := by decide +kernel
theorem dX7_hasAllRanges_0 : decode cX7_hasAllRanges 0 = .ok (.iconst 0, 1) := by decide +kernel
theorem dX7_hasAllRanges_1 : decode cX7_hasAllRanges 1 = .ok (.istore_n 1, 1) := by decide +kernel
theorem dX7_hasAllRanges_2 : decode cX7_hasAllRanges 2 = .ok (.iload_n 1, 1) := by decide +kernel
theorem dX7_hasAllRanges_3 : decode cX7_hasAllRanges 3 = .ok (.aload_n 0, 1) := by decide +kernel
theorem dX7_hasAllRanges_4 : decode cX7_hasAllRanges 4 = .ok (.getfield 15, 3) := by decide +kernel
theorem dX7_hasAllRanges_7 : decode cX7_hasAllRanges 7 = .ok (.if_icmp .ge 20, 3) := by decide +kernel
theorem dX7_hasAllRanges_10 : decode cX7_hasAllRanges 10 = .ok (.aload_n 0, 1) := by decide +kernel
theorem dX7_hasAllRanges_11 : decode cX7_hasAllRanges 11 = .ok (.getfield 36, 3) := by decide +kernel
theorem dX7_hasAllRanges_14 : decode cX7_hasAllRanges 14 = .ok (.iload_n 1, 1) := by decide +kernel
theorem dX7_hasAllRanges_15 : decode cX7_hasAllRanges 15 = .ok (.iaload, 1) := by decide +kernel
theorem dX7_hasAllRanges_16 : decode cX7_hasAllRanges 16 = .ok (.ifCond .ne 5, 3) := by decide +kernel
theorem dX7_hasAllRanges_19 : decode cX7_hasAllRanges 19 = .ok (.iconst 0, 1) := by decide +kernel
theorem dX7_hasAllRanges_20 : decode cX7_hasAllRanges 20 = .ok (.ireturn, 1) := by decide +kernel
theorem dX7_hasAllRanges_21 : decode cX7_hasAllRanges 21 = .ok (.iinc 1 1, 3) := by decide +kernel
theorem dX7_hasAllRanges_24 : decode cX7_hasAllRanges 24 = .ok (.goto (-22), 3) := by decide +kernel
theorem dX7_hasAllRanges_27 : decode cX7_hasAllRanges 27 = .ok (.iconst 1, 1) := by decide +kernel
theorem dX7_hasAllRanges_28 : decode cX7_hasAllRanges 28 = .ok (.ireturn, 1) := by decide +kernel
theorem dX7_hasMark_0 : decode cX7_hasMark 0 = .ok (.aload_n 0, 1) := by decide +kernel
theorem dX7_hasMark_1 : decode cX7_hasMark 1 = .ok (.iload_n 1, 1) := by decide +kernel
theorem dX7_hasMark_2 : decode cX7_hasMark 2 = .ok (.invokevirtual 47, 3) := by decide +kernel
theorem dX7_hasMark_5 : decode cX7_hasMark 5 = .ok (.ifCond .eq 21, 3) := by decide +kernel
theorem dX7_hasMark_8 : decode cX7_hasMark 8 = .ok (.iload_n 2, 1) := by decide +kernel
theorem dX7_hasMark_9 : decode cX7_hasMark 9 = .ok (.ifCond .lt 17, 3) := by decide +kernel
theorem dX7_hasMark_12 : decode cX7_hasMark 12 = .ok (.iload_n 2, 1) := by decide +kernel
theorem dX7_hasMark_13 : decode cX7_hasMark 13 = .ok (.aload_n 0, 1) := by decide +kernel
theorem dX7_hasMark_14 : decode cX7_hasMark 14 = .ok (.getfield 36, 3) := by decide +kernel
theorem dX7_hasMark_17 : decode cX7_hasMark 17 = .ok (.iload_n 1, 1) := by decide +kernel
theorem dX7_hasMark_18 : decode cX7_hasMark 18 = .ok (.iaload, 1) := by decide +kernel
theorem dX7_hasMark_19 : decode cX7_hasMark 19 = .ok (.if_icmp .ge 7, 3) := by decide +kernel
theorem dX7_hasMark_22 : decode cX7_hasMark 22 = .ok (.iconst 1, 1) := by decide +kernel
theorem dX7_hasMark_23 : decode cX7_hasMark 23 = .ok (.goto 4, 3) := by decide +kernel
theorem dX7_hasMark_26 : decode cX7_hasMark 26 = .ok (.iconst 0, 1) := by decide +kernel
theorem dX7_hasMark_27 : decode cX7_hasMark 27 = .ok (.ireturn, 1) := by decide +kernel
theorem dX7_numberOf_0 : decode cX7_numberOf 0 = .ok (.aload_n 0, 1) := by decide +kernel
theorem dX7_numberOf_1 : decode cX7_numberOf 1 = .ok (.iload_n 1, 1) := by decide +kernel
theorem dX7_numberOf_2 : decode cX7_numberOf 2 = .ok (.iload_n 2, 1) := by decide +kernel
theorem dX7_numberOf_3 : decode cX7_numberOf 3 = .ok (.invokevirtual 74, 3) := by decide +kernel
theorem dX7_numberOf_6 : decode cX7_numberOf 6 = .ok (.ifCond .eq 14, 3) := by decide +kernel
theorem dX7_numberOf_9 : decode cX7_numberOf 9 = .ok (.aload_n 0, 1) := by decide +kernel
theorem dX7_numberOf_10 : decode cX7_numberOf 10 = .ok (.getfield 41, 3) := by decide +kernel
theorem dX7_numberOf_13 : decode cX7_numberOf 13 = .ok (.iload_n 1, 1) := by decide +kernel
theorem dX7_numberOf_14 : decode cX7_numberOf 14 = .ok (.aaload, 1) := by decide +kernel
theorem dX7_numberOf_15 : decode cX7_numberOf 15 = .ok (.iload_n 2, 1) := by decide +kernel
theorem dX7_numberOf_16 : decode cX7_numberOf 16 = .ok (.iaload, 1) := by decide +kernel
theorem dX7_numberOf_17 : decode cX7_numberOf 17 = .ok (.goto 4, 3) := by decide +kernel
theorem dX7_numberOf_20 : decode cX7_numberOf 20 = .ok (.iconst 0, 1) := by decide +kernel
theorem dX7_numberOf_21 : decode cX7_numberOf 21 = .ok (.ireturn, 1) := by decide +kernel
theorem dX7_signedOf_0 : decode cX7_signedOf 0 = .ok (.aload_n 0, 1) := by decide +kernel
theorem dX7_signedOf_1 : decode cX7_signedOf 1 = .ok (.iload_n 1, 1) := by decide +kernel
theorem dX7_signedOf_2 : decode cX7_signedOf 2 = .ok (.iload_n 2, 1) := by decide +kernel
theorem dX7_signedOf_3 : decode cX7_signedOf 3 = .ok (.invokevirtual 74, 3) := by decide +kernel
theorem dX7_signedOf_6 : decode cX7_signedOf 6 = .ok (.ifCond .eq 21, 3) := by decide +kernel
theorem dX7_signedOf_9 : decode cX7_signedOf 9 = .ok (.aload_n 0, 1) := by decide +kernel
theorem dX7_signedOf_10 : decode cX7_signedOf 10 = .ok (.getfield 35, 3) := by decide +kernel
theorem dX7_signedOf_13 : decode cX7_signedOf 13 = .ok (.iload_n 1, 1) := by decide +kernel
theorem dX7_signedOf_14 : decode cX7_signedOf 14 = .ok (.iaload, 1) := by decide +kernel
theorem dX7_signedOf_15 : decode cX7_signedOf 15 = .ok (.aload_n 0, 1) := by decide +kernel
theorem dX7_signedOf_16 : decode cX7_signedOf 16 = .ok (.getfield 41, 3) := by decide +kernel
theorem dX7_signedOf_19 : decode cX7_signedOf 19 = .ok (.iload_n 1, 1) := by decide +kernel
theorem dX7_signedOf_20 : decode cX7_signedOf 20 = .ok (.aaload, 1) := by decide +kernel
theorem dX7_signedOf_21 : decode cX7_signedOf 21 = .ok (.iload_n 2, 1) := by decide +kernel
theorem dX7_signedOf_22 : decode cX7_signedOf 22 = .ok (.iaload, 1) := by decide +kernel
theorem dX7_signedOf_23 : decode cX7_signedOf 23 = .ok (.imul, 1) := by decide +kernel
theorem dX7_signedOf_24 : decode cX7_signedOf 24 = .ok (.goto 4, 3) := by decide +kernel
theorem dX7_signedOf_27 : decode cX7_signedOf 27 = .ok (.iconst 0, 1) := by decide +kernel
theorem dX7_signedOf_28 : decode cX7_signedOf 28 = .ok (.ireturn, 1) := by decide +kernel
theorem dX7_lastMarkOf_0 : decode cX7_lastMarkOf 0 = .ok (.aload_n 0, 1) := by decide +kernel
theorem dX7_lastMarkOf_1 : decode cX7_lastMarkOf 1 = .ok (.iload_n 1, 1) := by decide +kernel
theorem dX7_lastMarkOf_2 : decode cX7_lastMarkOf 2 = .ok (.invokevirtual 47, 3) := by decide +kernel
theorem dX7_lastMarkOf_5 : decode cX7_lastMarkOf 5 = .ok (.ifCond .eq 14, 3) := by decide +kernel
theorem dX7_lastMarkOf_8 : decode cX7_lastMarkOf 8 = .ok (.aload_n 0, 1) := by decide +kernel
theorem dX7_lastMarkOf_9 : decode cX7_lastMarkOf 9 = .ok (.getfield 36, 3) := by decide +kernel
theorem dX7_lastMarkOf_12 : decode cX7_lastMarkOf 12 = .ok (.iload_n 1, 1) := by decide +kernel
theorem dX7_lastMarkOf_13 : decode cX7_lastMarkOf 13 = .ok (.iaload, 1) := by decide +kernel
theorem dX7_lastMarkOf_14 : decode cX7_lastMarkOf 14 = .ok (.iconst 1, 1) := by decide +kernel
theorem dX7_lastMarkOf_15 : decode cX7_lastMarkOf 15 = .ok (.isub, 1) := by decide +kernel
theorem dX7_lastMarkOf_16 : decode cX7_lastMarkOf 16 = .ok (.goto 4, 3) := by decide +kernel
theorem dX7_lastMarkOf_19 : decode cX7_lastMarkOf 19 = .ok (.iconst 0, 1) := by decide +kernel
theorem dX7_lastMarkOf_20 : decode cX7_lastMarkOf 20 = .ok (.ireturn, 1) := by decide +kernel
theorem dX7_leastOf_0 : decode cX7_leastOf 0 = .ok (.aload_n 0, 1) := by decide +kernel
theorem dX7_leastOf_1 : decode cX7_leastOf 1 = .ok (.iload_n 1, 1) := by decide +kernel
theorem dX7_leastOf_2 : decode cX7_leastOf 2 = .ok (.iconst 0, 1) := by decide +kernel
theorem dX7_leastOf_3 : decode cX7_leastOf 3 = .ok (.invokevirtual 78, 3) := by decide +kernel
theorem dX7_leastOf_6 : decode cX7_leastOf 6 = .ok (.istore_n 2, 1) := by decide +kernel
theorem dX7_leastOf_7 : decode cX7_leastOf 7 = .ok (.iconst 1, 1) := by decide +kernel
theorem dX7_leastOf_8 : decode cX7_leastOf 8 = .ok (.istore_n 3, 1) := by decide +kernel
theorem dX7_leastOf_9 : decode cX7_leastOf 9 = .ok (.iload_n 3, 1) := by decide +kernel
theorem dX7_leastOf_10 : decode cX7_leastOf 10 = .ok (.aload_n 0, 1) := by decide +kernel
theorem dX7_leastOf_11 : decode cX7_leastOf 11 = .ok (.iload_n 1, 1) := by decide +kernel
theorem dX7_leastOf_12 : decode cX7_leastOf 12 = .ok (.invokevirtual 81, 3) := by decide +kernel
theorem dX7_leastOf_15 : decode cX7_leastOf 15 = .ok (.if_icmp .gt 20, 3) := by decide +kernel
theorem dX7_leastOf_18 : decode cX7_leastOf 18 = .ok (.iload_n 2, 1) := by decide +kernel
theorem dX7_leastOf_19 : decode cX7_leastOf 19 = .ok (.aload_n 0, 1) := by decide +kernel
theorem dX7_leastOf_20 : decode cX7_leastOf 20 = .ok (.iload_n 1, 1) := by decide +kernel
theorem dX7_leastOf_21 : decode cX7_leastOf 21 = .ok (.iload_n 3, 1) := by decide +kernel
theorem dX7_leastOf_22 : decode cX7_leastOf 22 = .ok (.invokevirtual 78, 3) := by decide +kernel
theorem dX7_leastOf_25 : decode cX7_leastOf 25 = .ok (.invokestatic 84, 3) := by decide +kernel
theorem dX7_leastOf_28 : decode cX7_leastOf 28 = .ok (.istore_n 2, 1) := by decide +kernel
theorem dX7_leastOf_29 : decode cX7_leastOf 29 = .ok (.iinc 3 1, 3) := by decide +kernel
theorem dX7_leastOf_32 : decode cX7_leastOf 32 = .ok (.goto (-23), 3) := by decide +kernel
theorem dX7_leastOf_35 : decode cX7_leastOf 35 = .ok (.iload_n 2, 1) := by decide +kernel
theorem dX7_leastOf_36 : decode cX7_leastOf 36 = .ok (.ireturn, 1) := by decide +kernel
theorem dX7_greatestOf_0 : decode cX7_greatestOf 0 = .ok (.aload_n 0, 1) := by decide +kernel
theorem dX7_greatestOf_1 : decode cX7_greatestOf 1 = .ok (.iload_n 1, 1) := by decide +kernel
theorem dX7_greatestOf_2 : decode cX7_greatestOf 2 = .ok (.iconst 0, 1) := by decide +kernel
theorem dX7_greatestOf_3 : decode cX7_greatestOf 3 = .ok (.invokevirtual 78, 3) := by decide +kernel
theorem dX7_greatestOf_6 : decode cX7_greatestOf 6 = .ok (.istore_n 2, 1) := by decide +kernel
theorem dX7_greatestOf_7 : decode cX7_greatestOf 7 = .ok (.iconst 1, 1) := by decide +kernel
theorem dX7_greatestOf_8 : decode cX7_greatestOf 8 = .ok (.istore_n 3, 1) := by decide +kernel
theorem dX7_greatestOf_9 : decode cX7_greatestOf 9 = .ok (.iload_n 3, 1) := by decide +kernel
theorem dX7_greatestOf_10 : decode cX7_greatestOf 10 = .ok (.aload_n 0, 1) := by decide +kernel
theorem dX7_greatestOf_11 : decode cX7_greatestOf 11 = .ok (.iload_n 1, 1) := by decide +kernel
theorem dX7_greatestOf_12 : decode cX7_greatestOf 12 = .ok (.invokevirtual 81, 3) := by decide +kernel
theorem dX7_greatestOf_15 : decode cX7_greatestOf 15 = .ok (.if_icmp .gt 20, 3) := by decide +kernel
theorem dX7_greatestOf_18 : decode cX7_greatestOf 18 = .ok (.iload_n 2, 1) := by decide +kernel
theorem dX7_greatestOf_19 : decode cX7_greatestOf 19 = .ok (.aload_n 0, 1) := by decide +kernel
theorem dX7_greatestOf_20 : decode cX7_greatestOf 20 = .ok (.iload_n 1, 1) := by decide +kernel
theorem dX7_greatestOf_21 : decode cX7_greatestOf 21 = .ok (.iload_n 3, 1) := by decide +kernel
theorem dX7_greatestOf_22 : decode cX7_greatestOf 22 = .ok (.invokevirtual 78, 3) := by decide +kernel
theorem dX7_greatestOf_25 : decode cX7_greatestOf 25 = .ok (.invokestatic 89, 3) := by decide +kernel
theorem dX7_greatestOf_28 : decode cX7_greatestOf 28 = .ok (.istore_n 2, 1) := by decide +kernel
theorem dX7_greatestOf_29 : decode cX7_greatestOf 29 = .ok (.iinc 3 1, 3) := by decide +kernel
theorem dX7_greatestOf_32 : decode cX7_greatestOf 32 = .ok (.goto (-23), 3) := by decide +kernel
theorem dX7_greatestOf_35 : decode cX7_greatestOf 35 = .ok (.iload_n 2, 1) := by decide +kernel
theorem dX7_greatestOf_36 : decode cX7_greatestOf 36 = .ok (.ireturn, 1) := by decide +kernel
theorem dX7_isOrder_0 : decode cX7_isOrder 0 = .ok (.iload_n 1, 1) := by decide +kernel
theorem dX7_isOrder_1 : decode cX7_isOrder 1 = .ok (.istore_n 2, 1) := by decide +kernel
theorem dX7_isOrder_2 : decode cX7_isOrder 2 = .ok (.iconst 0, 1) := by decide +kernel
theorem dX7_isOrder_3 : decode cX7_isOrder 3 = .ok (.istore_n 3, 1) := by decide +kernel
theorem dX7_isOrder_4 : decode cX7_isOrder 4 = .ok (.iconst 1, 1) := by decide +kernel
theorem dX7_isOrder_5 : decode cX7_isOrder 5 = .ok (.istore 4, 2) := by decide +kernel
theorem dX7_isOrder_7 : decode cX7_isOrder 7 = .ok (.iload 4, 2) := by decide +kernel
theorem dX7_isOrder_9 : decode cX7_isOrder 9 = .ok (.aload_n 0, 1) := by decide +kernel
theorem dX7_isOrder_10 : decode cX7_isOrder 10 = .ok (.getfield 15, 3) := by decide +kernel
theorem dX7_isOrder_13 : decode cX7_isOrder 13 = .ok (.if_icmp .ge 54, 3) := by decide +kernel
theorem dX7_isOrder_16 : decode cX7_isOrder 16 = .ok (.iload_n 2, 1) := by decide +kernel
theorem dX7_isOrder_17 : decode cX7_isOrder 17 = .ok (.bipush 10, 2) := by decide +kernel
theorem dX7_isOrder_19 : decode cX7_isOrder 19 = .ok (.irem, 1) := by decide +kernel
theorem dX7_isOrder_20 : decode cX7_isOrder 20 = .ok (.istore 5, 2) := by decide +kernel
theorem dX7_isOrder_22 : decode cX7_isOrder 22 = .ok (.iload 5, 2) := by decide +kernel
theorem dX7_isOrder_24 : decode cX7_isOrder 24 = .ok (.iconst 1, 1) := by decide +kernel
theorem dX7_isOrder_25 : decode cX7_isOrder 25 = .ok (.if_icmp .lt 22, 3) := by decide +kernel
theorem dX7_isOrder_28 : decode cX7_isOrder 28 = .ok (.iload 5, 2) := by decide +kernel
theorem dX7_isOrder_30 : decode cX7_isOrder 30 = .ok (.aload_n 0, 1) := by decide +kernel
theorem dX7_isOrder_31 : decode cX7_isOrder 31 = .ok (.getfield 15, 3) := by decide +kernel
theorem dX7_isOrder_34 : decode cX7_isOrder 34 = .ok (.if_icmp .ge 13, 3) := by decide +kernel
theorem dX7_isOrder_37 : decode cX7_isOrder 37 = .ok (.iload_n 3, 1) := by decide +kernel
theorem dX7_isOrder_38 : decode cX7_isOrder 38 = .ok (.iload 5, 2) := by decide +kernel
theorem dX7_isOrder_40 : decode cX7_isOrder 40 = .ok (.ishr, 1) := by decide +kernel
theorem dX7_isOrder_41 : decode cX7_isOrder 41 = .ok (.iconst 1, 1) := by decide +kernel
theorem dX7_isOrder_42 : decode cX7_isOrder 42 = .ok (.iand, 1) := by decide +kernel
theorem dX7_isOrder_43 : decode cX7_isOrder 43 = .ok (.iconst 1, 1) := by decide +kernel
theorem dX7_isOrder_44 : decode cX7_isOrder 44 = .ok (.if_icmp .ne 5, 3) := by decide +kernel
theorem dX7_isOrder_47 : decode cX7_isOrder 47 = .ok (.iconst 0, 1) := by decide +kernel
theorem dX7_isOrder_48 : decode cX7_isOrder 48 = .ok (.ireturn, 1) := by decide +kernel
theorem dX7_isOrder_49 : decode cX7_isOrder 49 = .ok (.iload_n 3, 1) := by decide +kernel
theorem dX7_isOrder_50 : decode cX7_isOrder 50 = .ok (.iconst 1, 1) := by decide +kernel
theorem dX7_isOrder_51 : decode cX7_isOrder 51 = .ok (.iload 5, 2) := by decide +kernel
theorem dX7_isOrder_53 : decode cX7_isOrder 53 = .ok (.ishl, 1) := by decide +kernel
theorem dX7_isOrder_54 : decode cX7_isOrder 54 = .ok (.ior, 1) := by decide +kernel
theorem dX7_isOrder_55 : decode cX7_isOrder 55 = .ok (.istore_n 3, 1) := by decide +kernel
theorem dX7_isOrder_56 : decode cX7_isOrder 56 = .ok (.iload_n 2, 1) := by decide +kernel
theorem dX7_isOrder_57 : decode cX7_isOrder 57 = .ok (.bipush 10, 2) := by decide +kernel
theorem dX7_isOrder_59 : decode cX7_isOrder 59 = .ok (.idiv, 1) := by decide +kernel
theorem dX7_isOrder_60 : decode cX7_isOrder 60 = .ok (.istore_n 2, 1) := by decide +kernel
theorem dX7_isOrder_61 : decode cX7_isOrder 61 = .ok (.iinc 4 1, 3) := by decide +kernel
theorem dX7_isOrder_64 : decode cX7_isOrder 64 = .ok (.goto (-57), 3) := by decide +kernel
theorem dX7_isOrder_67 : decode cX7_isOrder 67 = .ok (.iload_n 2, 1) := by decide +kernel
theorem dX7_isOrder_68 : decode cX7_isOrder 68 = .ok (.ifCond .ne 7, 3) := by decide +kernel
theorem dX7_isOrder_71 : decode cX7_isOrder 71 = .ok (.iconst 1, 1) := by decide +kernel
theorem dX7_isOrder_72 : decode cX7_isOrder 72 = .ok (.goto 4, 3) := by decide +kernel
theorem dX7_isOrder_75 : decode cX7_isOrder 75 = .ok (.iconst 0, 1) := by decide +kernel
theorem dX7_isOrder_76 : decode cX7_isOrder 76 = .ok (.ireturn, 1) := by decide +kernel
theorem dX7_tenthsOf_0 : decode cX7_tenthsOf 0 = .ok (.aload_n 0, 1) := by decide +kernel
theorem dX7_tenthsOf_1 : decode cX7_tenthsOf 1 = .ok (.getfield 71, 3) := by decide +kernel
theorem dX7_tenthsOf_4 : decode cX7_tenthsOf 4 = .ok (.iconst 1, 1) := by decide +kernel
theorem dX7_tenthsOf_5 : decode cX7_tenthsOf 5 = .ok (.if_icmp .lt 32, 3) := by decide +kernel
theorem dX7_tenthsOf_8 : decode cX7_tenthsOf 8 = .ok (.lload_n 1, 1) := by decide +kernel
theorem dX7_tenthsOf_9 : decode cX7_tenthsOf 9 = .ok (.aload_n 0, 1) := by decide +kernel
theorem dX7_tenthsOf_10 : decode cX7_tenthsOf 10 = .ok (.getfield 44, 3) := by decide +kernel
theorem dX7_tenthsOf_13 : decode cX7_tenthsOf 13 = .ok (.iconst 0, 1) := by decide +kernel
theorem dX7_tenthsOf_14 : decode cX7_tenthsOf 14 = .ok (.iaload, 1) := by decide +kernel
theorem dX7_tenthsOf_15 : decode cX7_tenthsOf 15 = .ok (.i2l, 1) := by decide +kernel
theorem dX7_tenthsOf_16 : decode cX7_tenthsOf 16 = .ok (.lcmp, 1) := by decide +kernel
theorem dX7_tenthsOf_17 : decode cX7_tenthsOf 17 = .ok (.ifCond .lt 20, 3) := by decide +kernel
theorem dX7_tenthsOf_20 : decode cX7_tenthsOf 20 = .ok (.lload_n 1, 1) := by decide +kernel
theorem dX7_tenthsOf_21 : decode cX7_tenthsOf 21 = .ok (.aload_n 0, 1) := by decide +kernel
theorem dX7_tenthsOf_22 : decode cX7_tenthsOf 22 = .ok (.getfield 44, 3) := by decide +kernel
theorem dX7_tenthsOf_25 : decode cX7_tenthsOf 25 = .ok (.aload_n 0, 1) := by decide +kernel
theorem dX7_tenthsOf_26 : decode cX7_tenthsOf 26 = .ok (.getfield 71, 3) := by decide +kernel
theorem dX7_tenthsOf_29 : decode cX7_tenthsOf 29 = .ok (.iconst 1, 1) := by decide +kernel
theorem dX7_tenthsOf_30 : decode cX7_tenthsOf 30 = .ok (.isub, 1) := by decide +kernel
theorem dX7_tenthsOf_31 : decode cX7_tenthsOf 31 = .ok (.iaload, 1) := by decide +kernel
theorem dX7_tenthsOf_32 : decode cX7_tenthsOf 32 = .ok (.i2l, 1) := by decide +kernel
theorem dX7_tenthsOf_33 : decode cX7_tenthsOf 33 = .ok (.lcmp, 1) := by decide +kernel
theorem dX7_tenthsOf_34 : decode cX7_tenthsOf 34 = .ok (.ifCond .le 5, 3) := by decide +kernel
theorem dX7_tenthsOf_37 : decode cX7_tenthsOf 37 = .ok (.iconst (-1), 1) := by decide +kernel
theorem dX7_tenthsOf_38 : decode cX7_tenthsOf 38 = .ok (.ireturn, 1) := by decide +kernel
theorem dX7_tenthsOf_39 : decode cX7_tenthsOf 39 = .ok (.iconst 0, 1) := by decide +kernel
theorem dX7_tenthsOf_40 : decode cX7_tenthsOf 40 = .ok (.istore_n 3, 1) := by decide +kernel
theorem dX7_tenthsOf_41 : decode cX7_tenthsOf 41 = .ok (.iload_n 3, 1) := by decide +kernel
theorem dX7_tenthsOf_42 : decode cX7_tenthsOf 42 = .ok (.iconst 1, 1) := by decide +kernel
theorem dX7_tenthsOf_43 : decode cX7_tenthsOf 43 = .ok (.iadd, 1) := by decide +kernel
theorem dX7_tenthsOf_44 : decode cX7_tenthsOf 44 = .ok (.aload_n 0, 1) := by decide +kernel
theorem dX7_tenthsOf_45 : decode cX7_tenthsOf 45 = .ok (.getfield 71, 3) := by decide +kernel
theorem dX7_tenthsOf_48 : decode cX7_tenthsOf 48 = .ok (.if_icmp .ge 23, 3) := by decide +kernel
theorem dX7_tenthsOf_51 : decode cX7_tenthsOf 51 = .ok (.aload_n 0, 1) := by decide +kernel
theorem dX7_tenthsOf_52 : decode cX7_tenthsOf 52 = .ok (.getfield 44, 3) := by decide +kernel
theorem dX7_tenthsOf_55 : decode cX7_tenthsOf 55 = .ok (.iload_n 3, 1) := by decide +kernel
theorem dX7_tenthsOf_56 : decode cX7_tenthsOf 56 = .ok (.iconst 1, 1) := by decide +kernel
theorem dX7_tenthsOf_57 : decode cX7_tenthsOf 57 = .ok (.iadd, 1) := by decide +kernel
theorem dX7_tenthsOf_58 : decode cX7_tenthsOf 58 = .ok (.iaload, 1) := by decide +kernel
theorem dX7_tenthsOf_59 : decode cX7_tenthsOf 59 = .ok (.i2l, 1) := by decide +kernel
theorem dX7_tenthsOf_60 : decode cX7_tenthsOf 60 = .ok (.lload_n 1, 1) := by decide +kernel
theorem dX7_tenthsOf_61 : decode cX7_tenthsOf 61 = .ok (.lcmp, 1) := by decide +kernel
theorem dX7_tenthsOf_62 : decode cX7_tenthsOf 62 = .ok (.ifCond .gt 9, 3) := by decide +kernel
theorem dX7_tenthsOf_65 : decode cX7_tenthsOf 65 = .ok (.iinc 3 1, 3) := by decide +kernel
theorem dX7_tenthsOf_68 : decode cX7_tenthsOf 68 = .ok (.goto (-27), 3) := by decide +kernel
theorem dX7_tenthsOf_71 : decode cX7_tenthsOf 71 = .ok (.iload_n 3, 1) := by decide +kernel
theorem dX7_tenthsOf_72 : decode cX7_tenthsOf 72 = .ok (.iconst 1, 1) := by decide +kernel
theorem dX7_tenthsOf_73 : decode cX7_tenthsOf 73 = .ok (.iadd, 1) := by decide +kernel
theorem dX7_tenthsOf_74 : decode cX7_tenthsOf 74 = .ok (.aload_n 0, 1) := by decide +kernel
theorem dX7_tenthsOf_75 : decode cX7_tenthsOf 75 = .ok (.getfield 71, 3) := by decide +kernel
theorem dX7_tenthsOf_78 : decode cX7_tenthsOf 78 = .ok (.if_icmp .lt 8, 3) := by decide +kernel
theorem dX7_tenthsOf_81 : decode cX7_tenthsOf 81 = .ok (.bipush 10, 2) := by decide +kernel
theorem dX7_tenthsOf_83 : decode cX7_tenthsOf 83 = .ok (.iload_n 3, 1) := by decide +kernel
theorem dX7_tenthsOf_84 : decode cX7_tenthsOf 84 = .ok (.imul, 1) := by decide +kernel
theorem dX7_tenthsOf_85 : decode cX7_tenthsOf 85 = .ok (.ireturn, 1) := by decide +kernel
theorem dX7_tenthsOf_86 : decode cX7_tenthsOf 86 = .ok (.aload_n 0, 1) := by decide +kernel
theorem dX7_tenthsOf_87 : decode cX7_tenthsOf 87 = .ok (.getfield 44, 3) := by decide +kernel
theorem dX7_tenthsOf_90 : decode cX7_tenthsOf 90 = .ok (.iload_n 3, 1) := by decide +kernel
theorem dX7_tenthsOf_91 : decode cX7_tenthsOf 91 = .ok (.iconst 1, 1) := by decide +kernel
theorem dX7_tenthsOf_92 : decode cX7_tenthsOf 92 = .ok (.iadd, 1) := by decide +kernel
theorem dX7_tenthsOf_93 : decode cX7_tenthsOf 93 = .ok (.iaload, 1) := by decide +kernel
theorem dX7_tenthsOf_94 : decode cX7_tenthsOf 94 = .ok (.aload_n 0, 1) := by decide +kernel
theorem dX7_tenthsOf_95 : decode cX7_tenthsOf 95 = .ok (.getfield 44, 3) := by decide +kernel
theorem dX7_tenthsOf_98 : decode cX7_tenthsOf 98 = .ok (.iload_n 3, 1) := by decide +kernel
theorem dX7_tenthsOf_99 : decode cX7_tenthsOf 99 = .ok (.iaload, 1) := by decide +kernel
theorem dX7_tenthsOf_100 : decode cX7_tenthsOf 100 = .ok (.isub, 1) := by decide +kernel
theorem dX7_tenthsOf_101 : decode cX7_tenthsOf 101 = .ok (.istore 4, 2) := by decide +kernel
theorem dX7_tenthsOf_103 : decode cX7_tenthsOf 103 = .ok (.iload 4, 2) := by decide +kernel
theorem dX7_tenthsOf_105 : decode cX7_tenthsOf 105 = .ok (.ifCond .gt 10, 3) := by decide +kernel
theorem dX7_tenthsOf_108 : decode cX7_tenthsOf 108 = .ok (.bipush 10, 2) := by decide +kernel
theorem dX7_tenthsOf_110 : decode cX7_tenthsOf 110 = .ok (.iload_n 3, 1) := by decide +kernel
theorem dX7_tenthsOf_111 : decode cX7_tenthsOf 111 = .ok (.imul, 1) := by decide +kernel
theorem dX7_tenthsOf_112 : decode cX7_tenthsOf 112 = .ok (.goto 26, 3) := by decide +kernel
theorem dX7_tenthsOf_115 : decode cX7_tenthsOf 115 = .ok (.bipush 10, 2) := by decide +kernel
theorem dX7_tenthsOf_117 : decode cX7_tenthsOf 117 = .ok (.iload_n 3, 1) := by decide +kernel
theorem dX7_tenthsOf_118 : decode cX7_tenthsOf 118 = .ok (.imul, 1) := by decide +kernel
theorem dX7_tenthsOf_119 : decode cX7_tenthsOf 119 = .ok (.ldc2_w 92, 3) := by decide +kernel
theorem dX7_tenthsOf_122 : decode cX7_tenthsOf 122 = .ok (.lload_n 1, 1) := by decide +kernel
theorem dX7_tenthsOf_123 : decode cX7_tenthsOf 123 = .ok (.aload_n 0, 1) := by decide +kernel
theorem dX7_tenthsOf_124 : decode cX7_tenthsOf 124 = .ok (.getfield 44, 3) := by decide +kernel
theorem dX7_tenthsOf_127 : decode cX7_tenthsOf 127 = .ok (.iload_n 3, 1) := by decide +kernel
theorem dX7_tenthsOf_128 : decode cX7_tenthsOf 128 = .ok (.iaload, 1) := by decide +kernel
theorem dX7_tenthsOf_129 : decode cX7_tenthsOf 129 = .ok (.i2l, 1) := by decide +kernel
theorem dX7_tenthsOf_130 : decode cX7_tenthsOf 130 = .ok (.lsub, 1) := by decide +kernel
theorem dX7_tenthsOf_131 : decode cX7_tenthsOf 131 = .ok (.lmul, 1) := by decide +kernel
theorem dX7_tenthsOf_132 : decode cX7_tenthsOf 132 = .ok (.iload 4, 2) := by decide +kernel
theorem dX7_tenthsOf_134 : decode cX7_tenthsOf 134 = .ok (.i2l, 1) := by decide +kernel
theorem dX7_tenthsOf_135 : decode cX7_tenthsOf 135 = .ok (.ldiv, 1) := by decide +kernel
theorem dX7_tenthsOf_136 : decode cX7_tenthsOf 136 = .ok (.l2i, 1) := by decide +kernel
theorem dX7_tenthsOf_137 : decode cX7_tenthsOf 137 = .ok (.iadd, 1) := by decide +kernel
theorem dX7_tenthsOf_138 : decode cX7_tenthsOf 138 = .ok (.ireturn, 1) := by decide +kernel
theorem dX7_numberOfValue_0 : decode cX7_numberOfValue 0 = .ok (.iload_n 0, 1) := by decide +kernel
theorem dX7_numberOfValue_1 : decode cX7_numberOfValue 1 = .ok (.iconst 1, 1) := by decide +kernel
theorem dX7_numberOfValue_2 : decode cX7_numberOfValue 2 = .ok (.if_icmp .ne 7, 3) := by decide +kernel
theorem dX7_numberOfValue_5 : decode cX7_numberOfValue 5 = .ok (.iload_n 1, 1) := by decide +kernel
theorem dX7_numberOfValue_6 : decode cX7_numberOfValue 6 = .ok (.iload_n 1, 1) := by decide +kernel
theorem dX7_numberOfValue_7 : decode cX7_numberOfValue 7 = .ok (.imul, 1) := by decide +kernel
theorem dX7_numberOfValue_8 : decode cX7_numberOfValue 8 = .ok (.ireturn, 1) := by decide +kernel
theorem dX7_numberOfValue_9 : decode cX7_numberOfValue 9 = .ok (.iload_n 0, 1) := by decide +kernel
theorem dX7_numberOfValue_10 : decode cX7_numberOfValue 10 = .ok (.iconst 2, 1) := by decide +kernel
theorem dX7_numberOfValue_11 : decode cX7_numberOfValue 11 = .ok (.if_icmp .ne 15, 3) := by decide +kernel
theorem dX7_numberOfValue_14 : decode cX7_numberOfValue 14 = .ok (.ldc2_w 94, 3) := by decide +kernel
theorem dX7_numberOfValue_17 : decode cX7_numberOfValue 17 = .ok (.iload_n 1, 1) := by decide +kernel
theorem dX7_numberOfValue_18 : decode cX7_numberOfValue 18 = .ok (.i2l, 1) := by decide +kernel
theorem dX7_numberOfValue_19 : decode cX7_numberOfValue 19 = .ok (.invokestatic 96, 3) := by decide +kernel
theorem dX7_numberOfValue_22 : decode cX7_numberOfValue 22 = .ok (.l2i, 1) := by decide +kernel
theorem dX7_numberOfValue_23 : decode cX7_numberOfValue 23 = .ok (.goto 4, 3) := by decide +kernel
theorem dX7_numberOfValue_26 : decode cX7_numberOfValue 26 = .ok (.iload_n 1, 1) := by decide +kernel
theorem dX7_numberOfValue_27 : decode cX7_numberOfValue 27 = .ok (.ireturn, 1) := by decide +kernel
theorem dX7_leastValue_0 : decode cX7_leastValue 0 = .ok (.iload_n 0, 1) := by decide +kernel
theorem dX7_leastValue_1 : decode cX7_leastValue 1 = .ok (.iconst 1, 1) := by decide +kernel
theorem dX7_leastValue_2 : decode cX7_leastValue 2 = .ok (.if_icmp .ne 5, 3) := by decide +kernel
theorem dX7_leastValue_5 : decode cX7_leastValue 5 = .ok (.iconst 0, 1) := by decide +kernel
theorem dX7_leastValue_6 : decode cX7_leastValue 6 = .ok (.ireturn, 1) := by decide +kernel
theorem dX7_leastValue_7 : decode cX7_leastValue 7 = .ok (.iload_n 0, 1) := by decide +kernel
theorem dX7_leastValue_8 : decode cX7_leastValue 8 = .ok (.iconst 2, 1) := by decide +kernel
theorem dX7_leastValue_9 : decode cX7_leastValue 9 = .ok (.if_icmp .ne 7, 3) := by decide +kernel
theorem dX7_leastValue_12 : decode cX7_leastValue 12 = .ok (.iconst 1, 1) := by decide +kernel
theorem dX7_leastValue_13 : decode cX7_leastValue 13 = .ok (.goto 6, 3) := by decide +kernel
theorem dX7_leastValue_16 : decode cX7_leastValue 16 = .ok (.sipush (-999), 3) := by decide +kernel
theorem dX7_leastValue_19 : decode cX7_leastValue 19 = .ok (.ireturn, 1) := by decide +kernel
theorem dX7_greatestValue_0 : decode cX7_greatestValue 0 = .ok (.iload_n 0, 1) := by decide +kernel
theorem dX7_greatestValue_1 : decode cX7_greatestValue 1 = .ok (.iconst 1, 1) := by decide +kernel
theorem dX7_greatestValue_2 : decode cX7_greatestValue 2 = .ok (.if_icmp .ne 8, 3) := by decide +kernel
theorem dX7_greatestValue_5 : decode cX7_greatestValue 5 = .ok (.bipush 99, 2) := by decide +kernel
theorem dX7_greatestValue_7 : decode cX7_greatestValue 7 = .ok (.goto 6, 3) := by decide +kernel
theorem dX7_greatestValue_10 : decode cX7_greatestValue 10 = .ok (.sipush 999, 3) := by decide +kernel
theorem dX7_greatestValue_13 : decode cX7_greatestValue 13 = .ok (.ireturn, 1) := by decide +kernel
theorem dX8_init_0 : decode cX8_init 0 = .ok (.aload_n 0, 1) := by decide +kernel
theorem dX8_init_1 : decode cX8_init 1 = .ok (.invokespecial 3, 3) := by decide +kernel
theorem dX8_init_4 : decode cX8_init 4 = .ok (.aload_n 0, 1) := by decide +kernel
theorem dX8_init_5 : decode cX8_init 5 = .ok (.bipush 120, 2) := by decide +kernel
theorem dX8_init_7 : decode cX8_init 7 = .ok (.newarray .byte, 2) := by decide +kernel
theorem dX8_init_9 : decode cX8_init 9 = .ok (.putfield 9, 3) := by decide +kernel
theorem dX8_init_12 : decode cX8_init 12 = .ok (.return_, 1) := by decide +kernel
theorem dX8_add_0 : decode cX8_add 0 = .ok (.bipush 24, 2) := by decide +kernel
theorem dX8_add_2 : decode cX8_add 2 = .ok (.istore_n 2, 1) := by decide +kernel
theorem dX8_add_3 : decode cX8_add 3 = .ok (.iload_n 2, 1) := by decide +kernel
theorem dX8_add_4 : decode cX8_add 4 = .ok (.ifCond .lt 44, 3) := by decide +kernel
theorem dX8_add_7 : decode cX8_add 7 = .ok (.aload_n 0, 1) := by decide +kernel
theorem dX8_add_8 : decode cX8_add 8 = .ok (.getfield 15, 3) := by decide +kernel
theorem dX8_add_11 : decode cX8_add 11 = .ok (.aload_n 0, 1) := by decide +kernel
theorem dX8_add_12 : decode cX8_add 12 = .ok (.getfield 9, 3) := by decide +kernel
theorem dX8_add_15 : decode cX8_add 15 = .ok (.arraylength, 1) := by decide +kernel
theorem dX8_add_16 : decode cX8_add 16 = .ok (.if_icmp .ge 26, 3) := by decide +kernel
theorem dX8_add_19 : decode cX8_add 19 = .ok (.aload_n 0, 1) := by decide +kernel
theorem dX8_add_20 : decode cX8_add 20 = .ok (.getfield 9, 3) := by decide +kernel
theorem dX8_add_23 : decode cX8_add 23 = .ok (.aload_n 0, 1) := by decide +kernel
theorem dX8_add_24 : decode cX8_add 24 = .ok (.getfield 15, 3) := by decide +kernel
theorem dX8_add_27 : decode cX8_add 27 = .ok (.iload_n 1, 1) := by decide +kernel
theorem dX8_add_28 : decode cX8_add 28 = .ok (.iload_n 2, 1) := by decide +kernel
theorem dX8_add_29 : decode cX8_add 29 = .ok (.iushr, 1) := by decide +kernel
theorem dX8_add_30 : decode cX8_add 30 = .ok (.i2b, 1) := by decide +kernel
theorem dX8_add_31 : decode cX8_add 31 = .ok (.bastore, 1) := by decide +kernel
theorem dX8_add_32 : decode cX8_add 32 = .ok (.aload_n 0, 1) := by decide +kernel
theorem dX8_add_33 : decode cX8_add 33 = .ok (.dup, 1) := by decide +kernel
theorem dX8_add_34 : decode cX8_add 34 = .ok (.getfield 15, 3) := by decide +kernel
theorem dX8_add_37 : decode cX8_add 37 = .ok (.iconst 1, 1) := by decide +kernel
theorem dX8_add_38 : decode cX8_add 38 = .ok (.iadd, 1) := by decide +kernel
theorem dX8_add_39 : decode cX8_add 39 = .ok (.putfield 15, 3) := by decide +kernel
theorem dX8_add_42 : decode cX8_add 42 = .ok (.iinc 2 (-8), 3) := by decide +kernel
theorem dX8_add_45 : decode cX8_add 45 = .ok (.goto (-42), 3) := by decide +kernel
theorem dX8_add_48 : decode cX8_add 48 = .ok (.return_, 1) := by decide +kernel
theorem dX8_byteAt_0 : decode cX8_byteAt 0 = .ok (.iload_n 1, 1) := by decide +kernel
theorem dX8_byteAt_1 : decode cX8_byteAt 1 = .ok (.ifCond .lt 24, 3) := by decide +kernel
theorem dX8_byteAt_4 : decode cX8_byteAt 4 = .ok (.iload_n 1, 1) := by decide +kernel
theorem dX8_byteAt_5 : decode cX8_byteAt 5 = .ok (.aload_n 0, 1) := by decide +kernel
theorem dX8_byteAt_6 : decode cX8_byteAt 6 = .ok (.getfield 15, 3) := by decide +kernel
theorem dX8_byteAt_9 : decode cX8_byteAt 9 = .ok (.if_icmp .ge 16, 3) := by decide +kernel
theorem dX8_byteAt_12 : decode cX8_byteAt 12 = .ok (.aload_n 0, 1) := by decide +kernel
theorem dX8_byteAt_13 : decode cX8_byteAt 13 = .ok (.getfield 9, 3) := by decide +kernel
theorem dX8_byteAt_16 : decode cX8_byteAt 16 = .ok (.iload_n 1, 1) := by decide +kernel
theorem dX8_byteAt_17 : decode cX8_byteAt 17 = .ok (.baload, 1) := by decide +kernel
theorem dX8_byteAt_18 : decode cX8_byteAt 18 = .ok (.sipush 255, 3) := by decide +kernel
theorem dX8_byteAt_21 : decode cX8_byteAt 21 = .ok (.iand, 1) := by decide +kernel
theorem dX8_byteAt_22 : decode cX8_byteAt 22 = .ok (.goto 4, 3) := by decide +kernel
theorem dX8_byteAt_25 : decode cX8_byteAt 25 = .ok (.iconst 0, 1) := by decide +kernel
theorem dX8_byteAt_26 : decode cX8_byteAt 26 = .ok (.ireturn, 1) := by decide +kernel
theorem dX9_init_0 : decode cX9_init 0 = .ok (.aload_n 0, 1) := by decide +kernel
theorem dX9_init_1 : decode cX9_init 1 = .ok (.invokespecial 1, 3) := by decide +kernel
theorem dX9_init_4 : decode cX9_init 4 = .ok (.return_, 1) := by decide +kernel
theorem dX9_along_0 : decode cX9_along 0 = .ok (.aload_n 0, 1) := by decide +kernel
theorem dX9_along_1 : decode cX9_along 1 = .ok (.aload_n 2, 1) := by decide +kernel
theorem dX9_along_2 : decode cX9_along 2 = .ok (.arraylength, 1) := by decide +kernel
theorem dX9_along_3 : decode cX9_along 3 = .ok (.ifCond .le 9, 3) := by decide +kernel
theorem dX9_along_6 : decode cX9_along 6 = .ok (.aload_n 2, 1) := by decide +kernel
theorem dX9_along_7 : decode cX9_along 7 = .ok (.iconst 0, 1) := by decide +kernel
theorem dX9_along_8 : decode cX9_along 8 = .ok (.laload, 1) := by decide +kernel
theorem dX9_along_9 : decode cX9_along 9 = .ok (.goto 4, 3) := by decide +kernel
theorem dX9_along_12 : decode cX9_along 12 = .ok (.lconst 0, 1) := by decide +kernel
theorem dX9_along_13 : decode cX9_along 13 = .ok (.putfield 7, 3) := by decide +kernel
theorem dX9_along_16 : decode cX9_along 16 = .ok (.iconst 0, 1) := by decide +kernel
theorem dX9_along_17 : decode cX9_along 17 = .ok (.istore 4, 2) := by decide +kernel
theorem dX9_along_19 : decode cX9_along 19 = .ok (.iload 4, 2) := by decide +kernel
theorem dX9_along_21 : decode cX9_along 21 = .ok (.iload_n 3, 1) := by decide +kernel
theorem dX9_along_22 : decode cX9_along 22 = .ok (.if_icmp .gt 116, 3) := by decide +kernel
theorem dX9_along_25 : decode cX9_along 25 = .ok (.iload 4, 2) := by decide +kernel
theorem dX9_along_27 : decode cX9_along 27 = .ok (.aload_n 1, 1) := by decide +kernel
theorem dX9_along_28 : decode cX9_along 28 = .ok (.getfield 13, 3) := by decide +kernel
theorem dX9_along_31 : decode cX9_along 31 = .ok (.if_icmp .ge 107, 3) := by decide +kernel
theorem dX9_along_34 : decode cX9_along 34 = .ok (.iload 4, 2) := by decide +kernel
theorem dX9_along_36 : decode cX9_along 36 = .ok (.iconst 1, 1) := by decide +kernel
theorem dX9_along_37 : decode cX9_along 37 = .ok (.iadd, 1) := by decide +kernel
theorem dX9_along_38 : decode cX9_along 38 = .ok (.aload_n 2, 1) := by decide +kernel
theorem dX9_along_39 : decode cX9_along 39 = .ok (.arraylength, 1) := by decide +kernel
theorem dX9_along_40 : decode cX9_along 40 = .ok (.if_icmp .ge 98, 3) := by decide +kernel
theorem dX9_along_43 : decode cX9_along 43 = .ok (.aload_n 0, 1) := by decide +kernel
theorem dX9_along_44 : decode cX9_along 44 = .ok (.aload_n 1, 1) := by decide +kernel
theorem dX9_along_45 : decode cX9_along 45 = .ok (.getfield 19, 3) := by decide +kernel
theorem dX9_along_48 : decode cX9_along 48 = .ok (.aload_n 1, 1) := by decide +kernel
theorem dX9_along_49 : decode cX9_along 49 = .ok (.getfield 23, 3) := by decide +kernel
theorem dX9_along_52 : decode cX9_along 52 = .ok (.iload 4, 2) := by decide +kernel
theorem dX9_along_54 : decode cX9_along 54 = .ok (.iaload, 1) := by decide +kernel
theorem dX9_along_55 : decode cX9_along 55 = .ok (.i2l, 1) := by decide +kernel
theorem dX9_along_56 : decode cX9_along 56 = .ok (.aload_n 0, 1) := by decide +kernel
theorem dX9_along_57 : decode cX9_along 57 = .ok (.getfield 7, 3) := by decide +kernel
theorem dX9_along_60 : decode cX9_along 60 = .ok (.lmul, 1) := by decide +kernel
theorem dX9_along_61 : decode cX9_along 61 = .ok (.invokevirtual 27, 3) := by decide +kernel
theorem dX9_along_64 : decode cX9_along 64 = .ok (.putfield 33, 3) := by decide +kernel
theorem dX9_along_67 : decode cX9_along 67 = .ok (.aload_n 0, 1) := by decide +kernel
theorem dX9_along_68 : decode cX9_along 68 = .ok (.aload_n 1, 1) := by decide +kernel
theorem dX9_along_69 : decode cX9_along 69 = .ok (.getfield 19, 3) := by decide +kernel
theorem dX9_along_72 : decode cX9_along 72 = .ok (.aload_n 1, 1) := by decide +kernel
theorem dX9_along_73 : decode cX9_along 73 = .ok (.getfield 35, 3) := by decide +kernel
theorem dX9_along_76 : decode cX9_along 76 = .ok (.iload 4, 2) := by decide +kernel
theorem dX9_along_78 : decode cX9_along 78 = .ok (.iaload, 1) := by decide +kernel
theorem dX9_along_79 : decode cX9_along 79 = .ok (.i2l, 1) := by decide +kernel
theorem dX9_along_80 : decode cX9_along 80 = .ok (.aload_n 2, 1) := by decide +kernel
theorem dX9_along_81 : decode cX9_along 81 = .ok (.iload 4, 2) := by decide +kernel
theorem dX9_along_83 : decode cX9_along 83 = .ok (.iconst 1, 1) := by decide +kernel
theorem dX9_along_84 : decode cX9_along 84 = .ok (.iadd, 1) := by decide +kernel
theorem dX9_along_85 : decode cX9_along 85 = .ok (.laload, 1) := by decide +kernel
theorem dX9_along_86 : decode cX9_along 86 = .ok (.lmul, 1) := by decide +kernel
theorem dX9_along_87 : decode cX9_along 87 = .ok (.invokevirtual 27, 3) := by decide +kernel
theorem dX9_along_90 : decode cX9_along 90 = .ok (.putfield 38, 3) := by decide +kernel
theorem dX9_along_93 : decode cX9_along 93 = .ok (.aload_n 0, 1) := by decide +kernel
theorem dX9_along_94 : decode cX9_along 94 = .ok (.aload_n 1, 1) := by decide +kernel
theorem dX9_along_95 : decode cX9_along 95 = .ok (.iload 4, 2) := by decide +kernel
theorem dX9_along_97 : decode cX9_along 97 = .ok (.aload_n 0, 1) := by decide +kernel
theorem dX9_along_98 : decode cX9_along 98 = .ok (.getfield 33, 3) := by decide +kernel
theorem dX9_along_101 : decode cX9_along 101 = .ok (.aload_n 0, 1) := by decide +kernel
theorem dX9_along_102 : decode cX9_along 102 = .ok (.getfield 38, 3) := by decide +kernel
theorem dX9_along_105 : decode cX9_along 105 = .ok (.invokevirtual 40, 3) := by decide +kernel
theorem dX9_along_108 : decode cX9_along 108 = .ok (.putfield 44, 3) := by decide +kernel
theorem dX9_along_111 : decode cX9_along 111 = .ok (.aload_n 0, 1) := by decide +kernel
theorem dX9_along_112 : decode cX9_along 112 = .ok (.aload_n 1, 1) := by decide +kernel
theorem dX9_along_113 : decode cX9_along 113 = .ok (.iload 4, 2) := by decide +kernel
theorem dX9_along_115 : decode cX9_along 115 = .ok (.aload_n 1, 1) := by decide +kernel
theorem dX9_along_116 : decode cX9_along 116 = .ok (.getfield 19, 3) := by decide +kernel
theorem dX9_along_119 : decode cX9_along 119 = .ok (.aload_n 0, 1) := by decide +kernel
theorem dX9_along_120 : decode cX9_along 120 = .ok (.getfield 44, 3) := by decide +kernel
theorem dX9_along_123 : decode cX9_along 123 = .ok (.invokevirtual 46, 3) := by decide +kernel
theorem dX9_along_126 : decode cX9_along 126 = .ok (.invokevirtual 49, 3) := by decide +kernel
theorem dX9_along_129 : decode cX9_along 129 = .ok (.putfield 7, 3) := by decide +kernel
theorem dX9_along_132 : decode cX9_along 132 = .ok (.iinc 4 1, 3) := by decide +kernel
theorem dX9_along_135 : decode cX9_along 135 = .ok (.goto (-116), 3) := by decide +kernel
theorem dX9_along_138 : decode cX9_along 138 = .ok (.return_, 1) := by decide +kernel
theorem dJ6_bitCount_0f7a4_0 : decode cJ6_bitCount_0f7a4 0 = .ok (.iload_n 0, 1) := by decide +kernel
theorem dJ6_bitCount_0f7a4_1 : decode cJ6_bitCount_0f7a4 1 = .ok (.iload_n 0, 1) := by decide +kernel
theorem dJ6_bitCount_0f7a4_2 : decode cJ6_bitCount_0f7a4 2 = .ok (.iconst 1, 1) := by decide +kernel
theorem dJ6_bitCount_0f7a4_3 : decode cJ6_bitCount_0f7a4 3 = .ok (.iushr, 1) := by decide +kernel
theorem dJ6_bitCount_0f7a4_4 : decode cJ6_bitCount_0f7a4 4 = .ok (.ldc_w 265, 3) := by decide +kernel
theorem dJ6_bitCount_0f7a4_7 : decode cJ6_bitCount_0f7a4 7 = .ok (.iand, 1) := by decide +kernel
theorem dJ6_bitCount_0f7a4_8 : decode cJ6_bitCount_0f7a4 8 = .ok (.isub, 1) := by decide +kernel
theorem dJ6_bitCount_0f7a4_9 : decode cJ6_bitCount_0f7a4 9 = .ok (.istore_n 0, 1) := by decide +kernel
theorem dJ6_bitCount_0f7a4_10 : decode cJ6_bitCount_0f7a4 10 = .ok (.iload_n 0, 1) := by decide +kernel
theorem dJ6_bitCount_0f7a4_11 : decode cJ6_bitCount_0f7a4 11 = .ok (.ldc_w 266, 3) := by decide +kernel
theorem dJ6_bitCount_0f7a4_14 : decode cJ6_bitCount_0f7a4 14 = .ok (.iand, 1) := by decide +kernel
theorem dJ6_bitCount_0f7a4_15 : decode cJ6_bitCount_0f7a4 15 = .ok (.iload_n 0, 1) := by decide +kernel
theorem dJ6_bitCount_0f7a4_16 : decode cJ6_bitCount_0f7a4 16 = .ok (.iconst 2, 1) := by decide +kernel
theorem dJ6_bitCount_0f7a4_17 : decode cJ6_bitCount_0f7a4 17 = .ok (.iushr, 1) := by decide +kernel
theorem dJ6_bitCount_0f7a4_18 : decode cJ6_bitCount_0f7a4 18 = .ok (.ldc_w 266, 3) := by decide +kernel
theorem dJ6_bitCount_0f7a4_21 : decode cJ6_bitCount_0f7a4 21 = .ok (.iand, 1) := by decide +kernel
theorem dJ6_bitCount_0f7a4_22 : decode cJ6_bitCount_0f7a4 22 = .ok (.iadd, 1) := by decide +kernel
theorem dJ6_bitCount_0f7a4_23 : decode cJ6_bitCount_0f7a4 23 = .ok (.istore_n 0, 1) := by decide +kernel
theorem dJ6_bitCount_0f7a4_24 : decode cJ6_bitCount_0f7a4 24 = .ok (.iload_n 0, 1) := by decide +kernel
theorem dJ6_bitCount_0f7a4_25 : decode cJ6_bitCount_0f7a4 25 = .ok (.iload_n 0, 1) := by decide +kernel
theorem dJ6_bitCount_0f7a4_26 : decode cJ6_bitCount_0f7a4 26 = .ok (.iconst 4, 1) := by decide +kernel
theorem dJ6_bitCount_0f7a4_27 : decode cJ6_bitCount_0f7a4 27 = .ok (.iushr, 1) := by decide +kernel
theorem dJ6_bitCount_0f7a4_28 : decode cJ6_bitCount_0f7a4 28 = .ok (.iadd, 1) := by decide +kernel
theorem dJ6_bitCount_0f7a4_29 : decode cJ6_bitCount_0f7a4 29 = .ok (.ldc_w 267, 3) := by decide +kernel
theorem dJ6_bitCount_0f7a4_32 : decode cJ6_bitCount_0f7a4 32 = .ok (.iand, 1) := by decide +kernel
theorem dJ6_bitCount_0f7a4_33 : decode cJ6_bitCount_0f7a4 33 = .ok (.istore_n 0, 1) := by decide +kernel
theorem dJ6_bitCount_0f7a4_34 : decode cJ6_bitCount_0f7a4 34 = .ok (.iload_n 0, 1) := by decide +kernel
theorem dJ6_bitCount_0f7a4_35 : decode cJ6_bitCount_0f7a4 35 = .ok (.iload_n 0, 1) := by decide +kernel
theorem dJ6_bitCount_0f7a4_36 : decode cJ6_bitCount_0f7a4 36 = .ok (.bipush 8, 2) := by decide +kernel
theorem dJ6_bitCount_0f7a4_38 : decode cJ6_bitCount_0f7a4 38 = .ok (.iushr, 1) := by decide +kernel
theorem dJ6_bitCount_0f7a4_39 : decode cJ6_bitCount_0f7a4 39 = .ok (.iadd, 1) := by decide +kernel
theorem dJ6_bitCount_0f7a4_40 : decode cJ6_bitCount_0f7a4 40 = .ok (.istore_n 0, 1) := by decide +kernel
theorem dJ6_bitCount_0f7a4_41 : decode cJ6_bitCount_0f7a4 41 = .ok (.iload_n 0, 1) := by decide +kernel
theorem dJ6_bitCount_0f7a4_42 : decode cJ6_bitCount_0f7a4 42 = .ok (.iload_n 0, 1) := by decide +kernel
theorem dJ6_bitCount_0f7a4_43 : decode cJ6_bitCount_0f7a4 43 = .ok (.bipush 16, 2) := by decide +kernel
theorem dJ6_bitCount_0f7a4_45 : decode cJ6_bitCount_0f7a4 45 = .ok (.iushr, 1) := by decide +kernel
theorem dJ6_bitCount_0f7a4_46 : decode cJ6_bitCount_0f7a4 46 = .ok (.iadd, 1) := by decide +kernel
theorem dJ6_bitCount_0f7a4_47 : decode cJ6_bitCount_0f7a4 47 = .ok (.istore_n 0, 1) := by decide +kernel
theorem dJ6_bitCount_0f7a4_48 : decode cJ6_bitCount_0f7a4 48 = .ok (.iload_n 0, 1) := by decide +kernel
theorem dJ6_bitCount_0f7a4_49 : decode cJ6_bitCount_0f7a4 49 = .ok (.bipush 63, 2) := by decide +kernel
theorem dJ6_bitCount_0f7a4_51 : decode cJ6_bitCount_0f7a4 51 = .ok (.iand, 1) := by decide +kernel
theorem dJ6_bitCount_0f7a4_52 : decode cJ6_bitCount_0f7a4 52 = .ok (.ireturn, 1) := by decide +kernel
theorem dJ7_fill_53178_0 : decode cJ7_fill_53178 0 = .ok (.iconst 0, 1) := by decide +kernel
theorem dJ7_fill_53178_1 : decode cJ7_fill_53178 1 = .ok (.istore_n 2, 1) := by decide +kernel
theorem dJ7_fill_53178_2 : decode cJ7_fill_53178 2 = .ok (.aload_n 0, 1) := by decide +kernel
theorem dJ7_fill_53178_3 : decode cJ7_fill_53178 3 = .ok (.arraylength, 1) := by decide +kernel
theorem dJ7_fill_53178_4 : decode cJ7_fill_53178 4 = .ok (.istore_n 3, 1) := by decide +kernel
theorem dJ7_fill_53178_5 : decode cJ7_fill_53178 5 = .ok (.iload_n 2, 1) := by decide +kernel
theorem dJ7_fill_53178_6 : decode cJ7_fill_53178 6 = .ok (.iload_n 3, 1) := by decide +kernel
theorem dJ7_fill_53178_7 : decode cJ7_fill_53178 7 = .ok (.if_icmp .ge 13, 3) := by decide +kernel
theorem dJ7_fill_53178_10 : decode cJ7_fill_53178 10 = .ok (.aload_n 0, 1) := by decide +kernel
theorem dJ7_fill_53178_11 : decode cJ7_fill_53178 11 = .ok (.iload_n 2, 1) := by decide +kernel
theorem dJ7_fill_53178_12 : decode cJ7_fill_53178 12 = .ok (.iload_n 1, 1) := by decide +kernel
theorem dJ7_fill_53178_13 : decode cJ7_fill_53178 13 = .ok (.iastore, 1) := by decide +kernel
theorem dJ7_fill_53178_14 : decode cJ7_fill_53178 14 = .ok (.iinc 2 1, 3) := by decide +kernel
theorem dJ7_fill_53178_17 : decode cJ7_fill_53178 17 = .ok (.goto (-12), 3) := by decide +kernel
theorem dJ7_fill_53178_20 : decode cJ7_fill_53178 20 = .ok (.return_, 1) := by decide +kernel
theorem dJ9_floorDiv_f86c9_0 : decode cJ9_floorDiv_f86c9 0 = .ok (.lload_n 0, 1) := by decide +kernel
theorem dJ9_floorDiv_f86c9_1 : decode cJ9_floorDiv_f86c9 1 = .ok (.lload_n 2, 1) := by decide +kernel
theorem dJ9_floorDiv_f86c9_2 : decode cJ9_floorDiv_f86c9 2 = .ok (.ldiv, 1) := by decide +kernel
theorem dJ9_floorDiv_f86c9_3 : decode cJ9_floorDiv_f86c9 3 = .ok (.lstore 4, 2) := by decide +kernel
theorem dJ9_floorDiv_f86c9_5 : decode cJ9_floorDiv_f86c9 5 = .ok (.lload_n 0, 1) := by decide +kernel
theorem dJ9_floorDiv_f86c9_6 : decode cJ9_floorDiv_f86c9 6 = .ok (.lload_n 2, 1) := by decide +kernel
theorem dJ9_floorDiv_f86c9_7 : decode cJ9_floorDiv_f86c9 7 = .ok (.lxor, 1) := by decide +kernel
theorem dJ9_floorDiv_f86c9_8 : decode cJ9_floorDiv_f86c9 8 = .ok (.lconst 0, 1) := by decide +kernel
theorem dJ9_floorDiv_f86c9_9 : decode cJ9_floorDiv_f86c9 9 = .ok (.lcmp, 1) := by decide +kernel
theorem dJ9_floorDiv_f86c9_10 : decode cJ9_floorDiv_f86c9 10 = .ok (.ifCond .ge 17, 3) := by decide +kernel
theorem dJ9_floorDiv_f86c9_13 : decode cJ9_floorDiv_f86c9 13 = .ok (.lload 4, 2) := by decide +kernel
theorem dJ9_floorDiv_f86c9_15 : decode cJ9_floorDiv_f86c9 15 = .ok (.lload_n 2, 1) := by decide +kernel
theorem dJ9_floorDiv_f86c9_16 : decode cJ9_floorDiv_f86c9 16 = .ok (.lmul, 1) := by decide +kernel
theorem dJ9_floorDiv_f86c9_17 : decode cJ9_floorDiv_f86c9 17 = .ok (.lload_n 0, 1) := by decide +kernel
theorem dJ9_floorDiv_f86c9_18 : decode cJ9_floorDiv_f86c9 18 = .ok (.lcmp, 1) := by decide +kernel
theorem dJ9_floorDiv_f86c9_19 : decode cJ9_floorDiv_f86c9 19 = .ok (.ifCond .eq 8, 3) := by decide +kernel
theorem dJ9_floorDiv_f86c9_22 : decode cJ9_floorDiv_f86c9 22 = .ok (.lload 4, 2) := by decide +kernel
theorem dJ9_floorDiv_f86c9_24 : decode cJ9_floorDiv_f86c9 24 = .ok (.lconst 1, 1) := by decide +kernel
theorem dJ9_floorDiv_f86c9_25 : decode cJ9_floorDiv_f86c9 25 = .ok (.lsub, 1) := by decide +kernel
theorem dJ9_floorDiv_f86c9_26 : decode cJ9_floorDiv_f86c9 26 = .ok (.lreturn, 1) := by decide +kernel
theorem dJ9_floorDiv_f86c9_27 : decode cJ9_floorDiv_f86c9 27 = .ok (.lload 4, 2) := by decide +kernel
theorem dJ9_floorDiv_f86c9_29 : decode cJ9_floorDiv_f86c9 29 = .ok (.lreturn, 1) := by decide +kernel
theorem dJ9_abs_0f7a4_0 : decode cJ9_abs_0f7a4 0 = .ok (.iload_n 0, 1) := by decide +kernel
theorem dJ9_abs_0f7a4_1 : decode cJ9_abs_0f7a4 1 = .ok (.ifCond .ge 8, 3) := by decide +kernel
theorem dJ9_abs_0f7a4_4 : decode cJ9_abs_0f7a4 4 = .ok (.iload_n 0, 1) := by decide +kernel
theorem dJ9_abs_0f7a4_5 : decode cJ9_abs_0f7a4 5 = .ok (.ineg, 1) := by decide +kernel
theorem dJ9_abs_0f7a4_6 : decode cJ9_abs_0f7a4 6 = .ok (.goto 4, 3) := by decide +kernel
theorem dJ9_abs_0f7a4_9 : decode cJ9_abs_0f7a4 9 = .ok (.iload_n 0, 1) := by decide +kernel
theorem dJ9_abs_0f7a4_10 : decode cJ9_abs_0f7a4 10 = .ok (.ireturn, 1) := by decide +kernel
theorem dJ9_abs_067f4_0 : decode cJ9_abs_067f4 0 = .ok (.lload_n 0, 1) := by decide +kernel
theorem dJ9_abs_067f4_1 : decode cJ9_abs_067f4 1 = .ok (.lconst 0, 1) := by decide +kernel
theorem dJ9_abs_067f4_2 : decode cJ9_abs_067f4 2 = .ok (.lcmp, 1) := by decide +kernel
theorem dJ9_abs_067f4_3 : decode cJ9_abs_067f4 3 = .ok (.ifCond .ge 8, 3) := by decide +kernel
theorem dJ9_abs_067f4_6 : decode cJ9_abs_067f4 6 = .ok (.lload_n 0, 1) := by decide +kernel
theorem dJ9_abs_067f4_7 : decode cJ9_abs_067f4 7 = .ok (.lneg, 1) := by decide +kernel
theorem dJ9_abs_067f4_8 : decode cJ9_abs_067f4 8 = .ok (.goto 4, 3) := by decide +kernel
theorem dJ9_abs_067f4_11 : decode cJ9_abs_067f4 11 = .ok (.lload_n 0, 1) := by decide +kernel
theorem dJ9_abs_067f4_12 : decode cJ9_abs_067f4 12 = .ok (.lreturn, 1) := by decide +kernel
theorem dJ9_max_7cf53_0 : decode cJ9_max_7cf53 0 = .ok (.iload_n 0, 1) := by decide +kernel
theorem dJ9_max_7cf53_1 : decode cJ9_max_7cf53 1 = .ok (.iload_n 1, 1) := by decide +kernel
theorem dJ9_max_7cf53_2 : decode cJ9_max_7cf53 2 = .ok (.if_icmp .lt 7, 3) := by decide +kernel
theorem dJ9_max_7cf53_5 : decode cJ9_max_7cf53 5 = .ok (.iload_n 0, 1) := by decide +kernel
theorem dJ9_max_7cf53_6 : decode cJ9_max_7cf53 6 = .ok (.goto 4, 3) := by decide +kernel
theorem dJ9_max_7cf53_9 : decode cJ9_max_7cf53 9 = .ok (.iload_n 1, 1) := by decide +kernel
theorem dJ9_max_7cf53_10 : decode cJ9_max_7cf53 10 = .ok (.ireturn, 1) := by decide +kernel
theorem dJ9_max_f86c9_0 : decode cJ9_max_f86c9 0 = .ok (.lload_n 0, 1) := by decide +kernel
theorem dJ9_max_f86c9_1 : decode cJ9_max_f86c9 1 = .ok (.lload_n 2, 1) := by decide +kernel
theorem dJ9_max_f86c9_2 : decode cJ9_max_f86c9 2 = .ok (.lcmp, 1) := by decide +kernel
theorem dJ9_max_f86c9_3 : decode cJ9_max_f86c9 3 = .ok (.ifCond .lt 7, 3) := by decide +kernel
theorem dJ9_max_f86c9_6 : decode cJ9_max_f86c9 6 = .ok (.lload_n 0, 1) := by decide +kernel
theorem dJ9_max_f86c9_7 : decode cJ9_max_f86c9 7 = .ok (.goto 4, 3) := by decide +kernel
theorem dJ9_max_f86c9_10 : decode cJ9_max_f86c9 10 = .ok (.lload_n 2, 1) := by decide +kernel
theorem dJ9_max_f86c9_11 : decode cJ9_max_f86c9 11 = .ok (.lreturn, 1) := by decide +kernel
theorem dJ9_min_7cf53_0 : decode cJ9_min_7cf53 0 = .ok (.iload_n 0, 1) := by decide +kernel
theorem dJ9_min_7cf53_1 : decode cJ9_min_7cf53 1 = .ok (.iload_n 1, 1) := by decide +kernel
theorem dJ9_min_7cf53_2 : decode cJ9_min_7cf53 2 = .ok (.if_icmp .gt 7, 3) := by decide +kernel
theorem dJ9_min_7cf53_5 : decode cJ9_min_7cf53 5 = .ok (.iload_n 0, 1) := by decide +kernel
theorem dJ9_min_7cf53_6 : decode cJ9_min_7cf53 6 = .ok (.goto 4, 3) := by decide +kernel
theorem dJ9_min_7cf53_9 : decode cJ9_min_7cf53 9 = .ok (.iload_n 1, 1) := by decide +kernel
theorem dJ9_min_7cf53_10 : decode cJ9_min_7cf53 10 = .ok (.ireturn, 1) := by decide +kernel
theorem dJ9_min_f86c9_0 : decode cJ9_min_f86c9 0 = .ok (.lload_n 0, 1) := by decide +kernel
theorem dJ9_min_f86c9_1 : decode cJ9_min_f86c9 1 = .ok (.lload_n 2, 1) := by decide +kernel
theorem dJ9_min_f86c9_2 : decode cJ9_min_f86c9 2 = .ok (.lcmp, 1) := by decide +kernel
theorem dJ9_min_f86c9_3 : decode cJ9_min_f86c9 3 = .ok (.ifCond .gt 7, 3) := by decide +kernel
theorem dJ9_min_f86c9_6 : decode cJ9_min_f86c9 6 = .ok (.lload_n 0, 1) := by decide +kernel
theorem dJ9_min_f86c9_7 : decode cJ9_min_f86c9 7 = .ok (.goto 4, 3) := by decide +kernel
theorem dJ9_min_f86c9_10 : decode cJ9_min_f86c9 10 = .ok (.lload_n 2, 1) := by decide +kernel
theorem dJ9_min_f86c9_11 : decode cJ9_min_f86c9 11 = .ok (.lreturn, 1) := by decide +kernel
end
section
theorem dX10_init_0 : decode cX10_init 0 = .ok (.aload_n 0, 1) := by decide +kernel
theorem dX10_init_1 : decode cX10_init 1 = .ok (.invokespecial 1, 3) := by decide +kernel
theorem dX10_init_4 : decode cX10_init 4 = .ok (.aload_n 0, 1) := by decide +kernel
theorem dX10_init_5 : decode cX10_init 5 = .ok (.new 7, 3) := by decide +kernel
theorem dX10_init_8 : decode cX10_init 8 = .ok (.dup, 1) := by decide +kernel
theorem dX10_init_9 : decode cX10_init 9 = .ok (.invokespecial 9, 3) := by decide +kernel
theorem dX10_init_12 : decode cX10_init 12 = .ok (.putfield 10, 3) := by decide +kernel
theorem dX10_init_15 : decode cX10_init 15 = .ok (.aload_n 0, 1) := by decide +kernel
theorem dX10_init_16 : decode cX10_init 16 = .ok (.new 16, 3) := by decide +kernel
theorem dX10_init_19 : decode cX10_init 19 = .ok (.dup, 1) := by decide +kernel
theorem dX10_init_20 : decode cX10_init 20 = .ok (.invokespecial 18, 3) := by decide +kernel
theorem dX10_init_23 : decode cX10_init 23 = .ok (.putfield 19, 3) := by decide +kernel
theorem dX10_init_26 : decode cX10_init 26 = .ok (.aload_n 0, 1) := by decide +kernel
theorem dX10_init_27 : decode cX10_init 27 = .ok (.bipush 6, 2) := by decide +kernel
theorem dX10_init_29 : decode cX10_init 29 = .ok (.anewarray 23, 3) := by decide +kernel
theorem dX10_init_32 : decode cX10_init 32 = .ok (.putfield 25, 3) := by decide +kernel
theorem dX10_init_35 : decode cX10_init 35 = .ok (.aload_n 0, 1) := by decide +kernel
theorem dX10_init_36 : decode cX10_init 36 = .ok (.bipush 6, 2) := by decide +kernel
theorem dX10_init_38 : decode cX10_init 38 = .ok (.anewarray 29, 3) := by decide +kernel
theorem dX10_init_41 : decode cX10_init 41 = .ok (.putfield 31, 3) := by decide +kernel
theorem dX10_init_44 : decode cX10_init 44 = .ok (.aload_n 0, 1) := by decide +kernel
theorem dX10_init_45 : decode cX10_init 45 = .ok (.iconst 4, 1) := by decide +kernel
theorem dX10_init_46 : decode cX10_init 46 = .ok (.newarray .int, 2) := by decide +kernel
theorem dX10_init_48 : decode cX10_init 48 = .ok (.putfield 35, 3) := by decide +kernel
theorem dX10_init_51 : decode cX10_init 51 = .ok (.aload_n 0, 1) := by decide +kernel
theorem dX10_init_52 : decode cX10_init 52 = .ok (.new 39, 3) := by decide +kernel
theorem dX10_init_55 : decode cX10_init 55 = .ok (.dup, 1) := by decide +kernel
theorem dX10_init_56 : decode cX10_init 56 = .ok (.invokespecial 41, 3) := by decide +kernel
theorem dX10_init_59 : decode cX10_init 59 = .ok (.putfield 42, 3) := by decide +kernel
theorem dX10_init_62 : decode cX10_init 62 = .ok (.aload_n 0, 1) := by decide +kernel
theorem dX10_init_63 : decode cX10_init 63 = .ok (.new 46, 3) := by decide +kernel
theorem dX10_init_66 : decode cX10_init 66 = .ok (.dup, 1) := by decide +kernel
theorem dX10_init_67 : decode cX10_init 67 = .ok (.invokespecial 48, 3) := by decide +kernel
theorem dX10_init_70 : decode cX10_init 70 = .ok (.putfield 49, 3) := by decide +kernel
theorem dX10_init_73 : decode cX10_init 73 = .ok (.aload_n 0, 1) := by decide +kernel
theorem dX10_init_74 : decode cX10_init 74 = .ok (.iconst 4, 1) := by decide +kernel
theorem dX10_init_75 : decode cX10_init 75 = .ok (.newarray .long, 2) := by decide +kernel
theorem dX10_init_77 : decode cX10_init 77 = .ok (.putfield 53, 3) := by decide +kernel
theorem dX10_init_80 : decode cX10_init 80 = .ok (.aload_n 0, 1) := by decide +kernel
theorem dX10_init_81 : decode cX10_init 81 = .ok (.new 57, 3) := by decide +kernel
theorem dX10_init_84 : decode cX10_init 84 = .ok (.dup, 1) := by decide +kernel
theorem dX10_init_85 : decode cX10_init 85 = .ok (.invokespecial 59, 3) := by decide +kernel
theorem dX10_init_88 : decode cX10_init 88 = .ok (.putfield 60, 3) := by decide +kernel
theorem dX10_init_91 : decode cX10_init 91 = .ok (.aload_n 0, 1) := by decide +kernel
theorem dX10_init_92 : decode cX10_init 92 = .ok (.new 64, 3) := by decide +kernel
theorem dX10_init_95 : decode cX10_init 95 = .ok (.dup, 1) := by decide +kernel
theorem dX10_init_96 : decode cX10_init 96 = .ok (.invokespecial 66, 3) := by decide +kernel
theorem dX10_init_99 : decode cX10_init 99 = .ok (.putfield 67, 3) := by decide +kernel
theorem dX10_init_102 : decode cX10_init 102 = .ok (.aload_n 0, 1) := by decide +kernel
theorem dX10_init_103 : decode cX10_init 103 = .ok (.new 71, 3) := by decide +kernel
theorem dX10_init_106 : decode cX10_init 106 = .ok (.dup, 1) := by decide +kernel
theorem dX10_init_107 : decode cX10_init 107 = .ok (.invokespecial 73, 3) := by decide +kernel
theorem dX10_init_110 : decode cX10_init 110 = .ok (.putfield 74, 3) := by decide +kernel
theorem dX10_init_113 : decode cX10_init 113 = .ok (.return_, 1) := by decide +kernel
theorem dX10_feed_0 : decode cX10_feed 0 = .ok (.aload_n 0, 1) := by decide +kernel
theorem dX10_feed_1 : decode cX10_feed 1 = .ok (.getfield 10, 3) := by decide +kernel
theorem dX10_feed_4 : decode cX10_feed 4 = .ok (.getfield 78, 3) := by decide +kernel
theorem dX10_feed_7 : decode cX10_feed 7 = .ok (.bipush 20, 2) := by decide +kernel
theorem dX10_feed_9 : decode cX10_feed 9 = .ok (.iadd, 1) := by decide +kernel
theorem dX10_feed_10 : decode cX10_feed 10 = .ok (.bipush 120, 2) := by decide +kernel
theorem dX10_feed_12 : decode cX10_feed 12 = .ok (.if_icmp .le 5, 3) := by decide +kernel
theorem dX10_feed_15 : decode cX10_feed 15 = .ok (.iconst (-1), 1) := by decide +kernel
theorem dX10_feed_16 : decode cX10_feed 16 = .ok (.ireturn, 1) := by decide +kernel
theorem dX10_feed_17 : decode cX10_feed 17 = .ok (.aload_n 0, 1) := by decide +kernel
theorem dX10_feed_18 : decode cX10_feed 18 = .ok (.getfield 10, 3) := by decide +kernel
theorem dX10_feed_21 : decode cX10_feed 21 = .ok (.iload_n 1, 1) := by decide +kernel
theorem dX10_feed_22 : decode cX10_feed 22 = .ok (.invokevirtual 82, 3) := by decide +kernel
theorem dX10_feed_25 : decode cX10_feed 25 = .ok (.aload_n 0, 1) := by decide +kernel
theorem dX10_feed_26 : decode cX10_feed 26 = .ok (.getfield 10, 3) := by decide +kernel
theorem dX10_feed_29 : decode cX10_feed 29 = .ok (.iload_n 2, 1) := by decide +kernel
theorem dX10_feed_30 : decode cX10_feed 30 = .ok (.invokevirtual 82, 3) := by decide +kernel
theorem dX10_feed_33 : decode cX10_feed 33 = .ok (.aload_n 0, 1) := by decide +kernel
theorem dX10_feed_34 : decode cX10_feed 34 = .ok (.getfield 10, 3) := by decide +kernel
theorem dX10_feed_37 : decode cX10_feed 37 = .ok (.iload_n 3, 1) := by decide +kernel
theorem dX10_feed_38 : decode cX10_feed 38 = .ok (.invokevirtual 82, 3) := by decide +kernel
theorem dX10_feed_41 : decode cX10_feed 41 = .ok (.aload_n 0, 1) := by decide +kernel
theorem dX10_feed_42 : decode cX10_feed 42 = .ok (.getfield 10, 3) := by decide +kernel
theorem dX10_feed_45 : decode cX10_feed 45 = .ok (.iload 4, 2) := by decide +kernel
theorem dX10_feed_47 : decode cX10_feed 47 = .ok (.invokevirtual 82, 3) := by decide +kernel
theorem dX10_feed_50 : decode cX10_feed 50 = .ok (.aload_n 0, 1) := by decide +kernel
theorem dX10_feed_51 : decode cX10_feed 51 = .ok (.getfield 10, 3) := by decide +kernel
theorem dX10_feed_54 : decode cX10_feed 54 = .ok (.iload 5, 2) := by decide +kernel
theorem dX10_feed_56 : decode cX10_feed 56 = .ok (.invokevirtual 82, 3) := by decide +kernel
theorem dX10_feed_59 : decode cX10_feed 59 = .ok (.aload_n 0, 1) := by decide +kernel
theorem dX10_feed_60 : decode cX10_feed 60 = .ok (.getfield 10, 3) := by decide +kernel
theorem dX10_feed_63 : decode cX10_feed 63 = .ok (.getfield 78, 3) := by decide +kernel
theorem dX10_feed_66 : decode cX10_feed 66 = .ok (.ireturn, 1) := by decide +kernel
theorem dX10_end_0 : decode cX10_end 0 = .ok (.iload_n 1, 1) := by decide +kernel
theorem dX10_end_1 : decode cX10_end 1 = .ok (.ifCond .lt 14, 3) := by decide +kernel
theorem dX10_end_4 : decode cX10_end 4 = .ok (.iload_n 1, 1) := by decide +kernel
theorem dX10_end_5 : decode cX10_end 5 = .ok (.aload_n 0, 1) := by decide +kernel
theorem dX10_end_6 : decode cX10_end 6 = .ok (.getfield 10, 3) := by decide +kernel
theorem dX10_end_9 : decode cX10_end 9 = .ok (.getfield 78, 3) := by decide +kernel
theorem dX10_end_12 : decode cX10_end 12 = .ok (.if_icmp .le 5, 3) := by decide +kernel
theorem dX10_end_15 : decode cX10_end 15 = .ok (.iconst 0, 1) := by decide +kernel
theorem dX10_end_16 : decode cX10_end 16 = .ok (.ireturn, 1) := by decide +kernel
theorem dX10_end_17 : decode cX10_end 17 = .ok (.aload_n 0, 1) := by decide +kernel
theorem dX10_end_18 : decode cX10_end 18 = .ok (.getfield 10, 3) := by decide +kernel
theorem dX10_end_21 : decode cX10_end 21 = .ok (.iload_n 1, 1) := by decide +kernel
theorem dX10_end_22 : decode cX10_end 22 = .ok (.putfield 78, 3) := by decide +kernel
theorem dX10_end_25 : decode cX10_end 25 = .ok (.iconst 1, 1) := by decide +kernel
theorem dX10_end_26 : decode cX10_end 26 = .ok (.ireturn, 1) := by decide +kernel
theorem dX10_fault_0 : decode cX10_fault 0 = .ok (.aload_n 0, 1) := by decide +kernel
theorem dX10_fault_1 : decode cX10_fault 1 = .ok (.getfield 19, 3) := by decide +kernel
theorem dX10_fault_4 : decode cX10_fault 4 = .ok (.aload_n 0, 1) := by decide +kernel
theorem dX10_fault_5 : decode cX10_fault 5 = .ok (.getfield 10, 3) := by decide +kernel
theorem dX10_fault_8 : decode cX10_fault 8 = .ok (.invokevirtual 86, 3) := by decide +kernel
theorem dX10_fault_11 : decode cX10_fault 11 = .ok (.ireturn, 1) := by decide +kernel
theorem dX10_rule_0 : decode cX10_rule 0 = .ok (.aload_n 0, 1) := by decide +kernel
theorem dX10_rule_1 : decode cX10_rule 1 = .ok (.getfield 90, 3) := by decide +kernel
theorem dX10_rule_4 : decode cX10_rule 4 = .ok (.bipush 6, 2) := by decide +kernel
theorem dX10_rule_6 : decode cX10_rule 6 = .ok (.if_icmp .ge 18, 3) := by decide +kernel
theorem dX10_rule_9 : decode cX10_rule 9 = .ok (.aload_n 0, 1) := by decide +kernel
theorem dX10_rule_10 : decode cX10_rule 10 = .ok (.getfield 19, 3) := by decide +kernel
theorem dX10_rule_13 : decode cX10_rule 13 = .ok (.aload_n 0, 1) := by decide +kernel
theorem dX10_rule_14 : decode cX10_rule 14 = .ok (.getfield 10, 3) := by decide +kernel
theorem dX10_rule_17 : decode cX10_rule 17 = .ok (.invokevirtual 86, 3) := by decide +kernel
theorem dX10_rule_20 : decode cX10_rule 20 = .ok (.iconst (-1), 1) := by decide +kernel
theorem dX10_rule_21 : decode cX10_rule 21 = .ok (.if_icmp .eq 5, 3) := by decide +kernel
theorem dX10_rule_24 : decode cX10_rule 24 = .ok (.iconst (-1), 1) := by decide +kernel
theorem dX10_rule_25 : decode cX10_rule 25 = .ok (.ireturn, 1) := by decide +kernel
theorem dX10_rule_26 : decode cX10_rule 26 = .ok (.aload_n 0, 1) := by decide +kernel
theorem dX10_rule_27 : decode cX10_rule 27 = .ok (.getfield 25, 3) := by decide +kernel
theorem dX10_rule_30 : decode cX10_rule 30 = .ok (.aload_n 0, 1) := by decide +kernel
theorem dX10_rule_31 : decode cX10_rule 31 = .ok (.getfield 90, 3) := by decide +kernel
theorem dX10_rule_34 : decode cX10_rule 34 = .ok (.new 23, 3) := by decide +kernel
theorem dX10_rule_37 : decode cX10_rule 37 = .ok (.dup, 1) := by decide +kernel
theorem dX10_rule_38 : decode cX10_rule 38 = .ok (.aload_n 0, 1) := by decide +kernel
theorem dX10_rule_39 : decode cX10_rule 39 = .ok (.getfield 19, 3) := by decide +kernel
theorem dX10_rule_42 : decode cX10_rule 42 = .ok (.invokespecial 93, 3) := by decide +kernel
theorem dX10_rule_45 : decode cX10_rule 45 = .ok (.aastore, 1) := by decide +kernel
theorem dX10_rule_46 : decode cX10_rule 46 = .ok (.aload_n 0, 1) := by decide +kernel
theorem dX10_rule_47 : decode cX10_rule 47 = .ok (.dup, 1) := by decide +kernel
theorem dX10_rule_48 : decode cX10_rule 48 = .ok (.getfield 90, 3) := by decide +kernel
theorem dX10_rule_51 : decode cX10_rule 51 = .ok (.iconst 1, 1) := by decide +kernel
theorem dX10_rule_52 : decode cX10_rule 52 = .ok (.iadd, 1) := by decide +kernel
theorem dX10_rule_53 : decode cX10_rule 53 = .ok (.putfield 90, 3) := by decide +kernel
theorem dX10_rule_56 : decode cX10_rule 56 = .ok (.aload_n 0, 1) := by decide +kernel
theorem dX10_rule_57 : decode cX10_rule 57 = .ok (.getfield 10, 3) := by decide +kernel
theorem dX10_rule_60 : decode cX10_rule 60 = .ok (.iconst 0, 1) := by decide +kernel
theorem dX10_rule_61 : decode cX10_rule 61 = .ok (.putfield 78, 3) := by decide +kernel
theorem dX10_rule_64 : decode cX10_rule 64 = .ok (.aload_n 0, 1) := by decide +kernel
theorem dX10_rule_65 : decode cX10_rule 65 = .ok (.getfield 90, 3) := by decide +kernel
theorem dX10_rule_68 : decode cX10_rule 68 = .ok (.iconst 1, 1) := by decide +kernel
theorem dX10_rule_69 : decode cX10_rule 69 = .ok (.isub, 1) := by decide +kernel
theorem dX10_rule_70 : decode cX10_rule 70 = .ok (.ireturn, 1) := by decide +kernel
theorem dX10_told_0 : decode cX10_told 0 = .ok (.aload_n 0, 1) := by decide +kernel
theorem dX10_told_1 : decode cX10_told 1 = .ok (.iload_n 1, 1) := by decide +kernel
theorem dX10_told_2 : decode cX10_told 2 = .ok (.invokevirtual 96, 3) := by decide +kernel
theorem dX10_told_5 : decode cX10_told 5 = .ok (.astore_n 3, 1) := by decide +kernel
theorem dX10_told_6 : decode cX10_told 6 = .ok (.aload_n 3, 1) := by decide +kernel
theorem dX10_told_7 : decode cX10_told 7 = .ok (.ifnonnull 6, 3) := by decide +kernel
theorem dX10_told_10 : decode cX10_told 10 = .ok (.ldc 100, 2) := by decide +kernel
theorem dX10_told_12 : decode cX10_told 12 = .ok (.ireturn, 1) := by decide +kernel
theorem dX10_told_13 : decode cX10_told 13 = .ok (.iload_n 2, 1) := by decide +kernel
theorem dX10_told_14 : decode cX10_told 14 = .ok (.ifCond .ne 8, 3) := by decide +kernel
theorem dX10_told_17 : decode cX10_told 17 = .ok (.aload_n 3, 1) := by decide +kernel
theorem dX10_told_18 : decode cX10_told 18 = .ok (.getfield 101, 3) := by decide +kernel
theorem dX10_told_21 : decode cX10_told 21 = .ok (.ireturn, 1) := by decide +kernel
theorem dX10_told_22 : decode cX10_told 22 = .ok (.iload_n 2, 1) := by decide +kernel
theorem dX10_told_23 : decode cX10_told 23 = .ok (.iconst 1, 1) := by decide +kernel
theorem dX10_told_24 : decode cX10_told 24 = .ok (.if_icmp .ne 8, 3) := by decide +kernel
theorem dX10_told_27 : decode cX10_told 27 = .ok (.aload_n 3, 1) := by decide +kernel
theorem dX10_told_28 : decode cX10_told 28 = .ok (.getfield 104, 3) := by decide +kernel
theorem dX10_told_31 : decode cX10_told 31 = .ok (.ireturn, 1) := by decide +kernel
theorem dX10_told_32 : decode cX10_told 32 = .ok (.iload_n 2, 1) := by decide +kernel
theorem dX10_told_33 : decode cX10_told 33 = .ok (.bipush 10, 2) := by decide +kernel
theorem dX10_told_35 : decode cX10_told 35 = .ok (.if_icmp .lt 18, 3) := by decide +kernel
theorem dX10_told_38 : decode cX10_told 38 = .ok (.iload_n 2, 1) := by decide +kernel
theorem dX10_told_39 : decode cX10_told 39 = .ok (.bipush 20, 2) := by decide +kernel
theorem dX10_told_41 : decode cX10_told 41 = .ok (.if_icmp .ge 12, 3) := by decide +kernel
theorem dX10_told_44 : decode cX10_told 44 = .ok (.aload_n 3, 1) := by decide +kernel
theorem dX10_told_45 : decode cX10_told 45 = .ok (.iload_n 2, 1) := by decide +kernel
theorem dX10_told_46 : decode cX10_told 46 = .ok (.bipush 10, 2) := by decide +kernel
theorem dX10_told_48 : decode cX10_told 48 = .ok (.isub, 1) := by decide +kernel
theorem dX10_told_49 : decode cX10_told 49 = .ok (.invokevirtual 107, 3) := by decide +kernel
theorem dX10_told_52 : decode cX10_told 52 = .ok (.ireturn, 1) := by decide +kernel
theorem dX10_told_53 : decode cX10_told 53 = .ok (.iload_n 2, 1) := by decide +kernel
theorem dX10_told_54 : decode cX10_told 54 = .ok (.bipush 20, 2) := by decide +kernel
theorem dX10_told_56 : decode cX10_told 56 = .ok (.if_icmp .lt 18, 3) := by decide +kernel
theorem dX10_told_59 : decode cX10_told 59 = .ok (.iload_n 2, 1) := by decide +kernel
theorem dX10_told_60 : decode cX10_told 60 = .ok (.bipush 30, 2) := by decide +kernel
theorem dX10_told_62 : decode cX10_told 62 = .ok (.if_icmp .ge 12, 3) := by decide +kernel
theorem dX10_told_65 : decode cX10_told 65 = .ok (.aload_n 3, 1) := by decide +kernel
theorem dX10_told_66 : decode cX10_told 66 = .ok (.iload_n 2, 1) := by decide +kernel
theorem dX10_told_67 : decode cX10_told 67 = .ok (.bipush 20, 2) := by decide +kernel
theorem dX10_told_69 : decode cX10_told 69 = .ok (.isub, 1) := by decide +kernel
theorem dX10_told_70 : decode cX10_told 70 = .ok (.invokevirtual 111, 3) := by decide +kernel
theorem dX10_told_73 : decode cX10_told 73 = .ok (.ireturn, 1) := by decide +kernel
theorem dX10_told_74 : decode cX10_told 74 = .ok (.ldc 100, 2) := by decide +kernel
theorem dX10_told_76 : decode cX10_told 76 = .ok (.ireturn, 1) := by decide +kernel
theorem dX10_range_0 : decode cX10_range 0 = .ok (.aload_n 0, 1) := by decide +kernel
theorem dX10_range_1 : decode cX10_range 1 = .ok (.iload_n 1, 1) := by decide +kernel
theorem dX10_range_2 : decode cX10_range 2 = .ok (.invokevirtual 96, 3) := by decide +kernel
theorem dX10_range_5 : decode cX10_range 5 = .ok (.astore 6, 2) := by decide +kernel
theorem dX10_range_7 : decode cX10_range 7 = .ok (.aload 6, 2) := by decide +kernel
theorem dX10_range_9 : decode cX10_range 9 = .ok (.ifnull 17, 3) := by decide +kernel
theorem dX10_range_12 : decode cX10_range 12 = .ok (.aload 6, 2) := by decide +kernel
theorem dX10_range_14 : decode cX10_range 14 = .ok (.iload_n 2, 1) := by decide +kernel
theorem dX10_range_15 : decode cX10_range 15 = .ok (.iload_n 3, 1) := by decide +kernel
theorem dX10_range_16 : decode cX10_range 16 = .ok (.iload 4, 2) := by decide +kernel
theorem dX10_range_18 : decode cX10_range 18 = .ok (.iload 5, 2) := by decide +kernel
theorem dX10_range_20 : decode cX10_range 20 = .ok (.invokevirtual 114, 3) := by decide +kernel
theorem dX10_range_23 : decode cX10_range 23 = .ok (.ifCond .ne 5, 3) := by decide +kernel
theorem dX10_range_26 : decode cX10_range 26 = .ok (.iconst (-1), 1) := by decide +kernel
theorem dX10_range_27 : decode cX10_range 27 = .ok (.ireturn, 1) := by decide +kernel
theorem dX10_range_28 : decode cX10_range 28 = .ok (.aload 6, 2) := by decide +kernel
theorem dX10_range_30 : decode cX10_range 30 = .ok (.iload_n 2, 1) := by decide +kernel
theorem dX10_range_31 : decode cX10_range 31 = .ok (.iload_n 3, 1) := by decide +kernel
theorem dX10_range_32 : decode cX10_range 32 = .ok (.iload 4, 2) := by decide +kernel
theorem dX10_range_34 : decode cX10_range 34 = .ok (.iload 5, 2) := by decide +kernel
theorem dX10_range_36 : decode cX10_range 36 = .ok (.invokevirtual 118, 3) := by decide +kernel
theorem dX10_range_39 : decode cX10_range 39 = .ok (.iload 5, 2) := by decide +kernel
theorem dX10_range_41 : decode cX10_range 41 = .ok (.ireturn, 1) := by decide +kernel
theorem dX10_mark_0 : decode cX10_mark 0 = .ok (.aload_n 0, 1) := by decide +kernel
theorem dX10_mark_1 : decode cX10_mark 1 = .ok (.iload_n 1, 1) := by decide +kernel
theorem dX10_mark_2 : decode cX10_mark 2 = .ok (.invokevirtual 96, 3) := by decide +kernel
theorem dX10_mark_5 : decode cX10_mark 5 = .ok (.astore 4, 2) := by decide +kernel
theorem dX10_mark_7 : decode cX10_mark 7 = .ok (.aload 4, 2) := by decide +kernel
theorem dX10_mark_9 : decode cX10_mark 9 = .ok (.ifnull 13, 3) := by decide +kernel
theorem dX10_mark_12 : decode cX10_mark 12 = .ok (.aload 4, 2) := by decide +kernel
theorem dX10_mark_14 : decode cX10_mark 14 = .ok (.iload_n 2, 1) := by decide +kernel
theorem dX10_mark_15 : decode cX10_mark 15 = .ok (.iload_n 3, 1) := by decide +kernel
theorem dX10_mark_16 : decode cX10_mark 16 = .ok (.invokevirtual 122, 3) := by decide +kernel
theorem dX10_mark_19 : decode cX10_mark 19 = .ok (.ifCond .ne 6, 3) := by decide +kernel
theorem dX10_mark_22 : decode cX10_mark 22 = .ok (.ldc 100, 2) := by decide +kernel
theorem dX10_mark_24 : decode cX10_mark 24 = .ok (.ireturn, 1) := by decide +kernel
theorem dX10_mark_25 : decode cX10_mark 25 = .ok (.aload 4, 2) := by decide +kernel
theorem dX10_mark_27 : decode cX10_mark 27 = .ok (.iload_n 2, 1) := by decide +kernel
theorem dX10_mark_28 : decode cX10_mark 28 = .ok (.iload_n 3, 1) := by decide +kernel
theorem dX10_mark_29 : decode cX10_mark 29 = .ok (.invokevirtual 126, 3) := by decide +kernel
theorem dX10_mark_32 : decode cX10_mark 32 = .ok (.ireturn, 1) := by decide +kernel
theorem dX10_chart_0 : decode cX10_chart 0 = .ok (.aload_n 0, 1) := by decide +kernel
theorem dX10_chart_1 : decode cX10_chart 1 = .ok (.iload_n 1, 1) := by decide +kernel
theorem dX10_chart_2 : decode cX10_chart 2 = .ok (.invokevirtual 96, 3) := by decide +kernel
theorem dX10_chart_5 : decode cX10_chart 5 = .ok (.astore 7, 2) := by decide +kernel
theorem dX10_chart_7 : decode cX10_chart 7 = .ok (.aload 7, 2) := by decide +kernel
theorem dX10_chart_9 : decode cX10_chart 9 = .ok (.ifnull 25, 3) := by decide +kernel
theorem dX10_chart_12 : decode cX10_chart 12 = .ok (.aload_n 0, 1) := by decide +kernel
theorem dX10_chart_13 : decode cX10_chart 13 = .ok (.getfield 130, 3) := by decide +kernel
theorem dX10_chart_16 : decode cX10_chart 16 = .ok (.bipush 6, 2) := by decide +kernel
theorem dX10_chart_18 : decode cX10_chart 18 = .ok (.if_icmp .ge 16, 3) := by decide +kernel
theorem dX10_chart_21 : decode cX10_chart 21 = .ok (.iload_n 3, 1) := by decide +kernel
theorem dX10_chart_22 : decode cX10_chart 22 = .ok (.bipush 10, 2) := by decide +kernel
theorem dX10_chart_24 : decode cX10_chart 24 = .ok (.if_icmp .lt 10, 3) := by decide +kernel
theorem dX10_chart_27 : decode cX10_chart 27 = .ok (.iload_n 3, 1) := by decide +kernel
theorem dX10_chart_28 : decode cX10_chart 28 = .ok (.sipush 1000, 3) := by decide +kernel
theorem dX10_chart_31 : decode cX10_chart 31 = .ok (.if_icmp .le 5, 3) := by decide +kernel
theorem dX10_chart_34 : decode cX10_chart 34 = .ok (.iconst (-1), 1) := by decide +kernel
theorem dX10_chart_35 : decode cX10_chart 35 = .ok (.ireturn, 1) := by decide +kernel
theorem dX10_chart_36 : decode cX10_chart 36 = .ok (.aload 7, 2) := by decide +kernel
theorem dX10_chart_38 : decode cX10_chart 38 = .ok (.invokevirtual 133, 3) := by decide +kernel
theorem dX10_chart_41 : decode cX10_chart 41 = .ok (.ifCond .eq 12, 3) := by decide +kernel
theorem dX10_chart_44 : decode cX10_chart 44 = .ok (.aload 7, 2) := by decide +kernel
theorem dX10_chart_46 : decode cX10_chart 46 = .ok (.iload_n 2, 1) := by decide +kernel
theorem dX10_chart_47 : decode cX10_chart 47 = .ok (.invokevirtual 137, 3) := by decide +kernel
theorem dX10_chart_50 : decode cX10_chart 50 = .ok (.ifCond .ne 5, 3) := by decide +kernel
theorem dX10_chart_53 : decode cX10_chart 53 = .ok (.iconst (-1), 1) := by decide +kernel
theorem dX10_chart_54 : decode cX10_chart 54 = .ok (.ireturn, 1) := by decide +kernel
theorem dX10_chart_55 : decode cX10_chart 55 = .ok (.aload 7, 2) := by decide +kernel
theorem dX10_chart_57 : decode cX10_chart 57 = .ok (.getfield 101, 3) := by decide +kernel
theorem dX10_chart_60 : decode cX10_chart 60 = .ok (.iconst 2, 1) := by decide +kernel
theorem dX10_chart_61 : decode cX10_chart 61 = .ok (.isub, 1) := by decide +kernel
theorem dX10_chart_62 : decode cX10_chart 62 = .ok (.istore 8, 2) := by decide +kernel
theorem dX10_chart_64 : decode cX10_chart 64 = .ok (.iload 4, 2) := by decide +kernel
theorem dX10_chart_66 : decode cX10_chart 66 = .ok (.iload 8, 2) := by decide +kernel
theorem dX10_chart_68 : decode cX10_chart 68 = .ok (.ifCond .le 7, 3) := by decide +kernel
theorem dX10_chart_71 : decode cX10_chart 71 = .ok (.iconst 1, 1) := by decide +kernel
theorem dX10_chart_72 : decode cX10_chart 72 = .ok (.goto 4, 3) := by decide +kernel
theorem dX10_chart_75 : decode cX10_chart 75 = .ok (.iconst 0, 1) := by decide +kernel
theorem dX10_chart_76 : decode cX10_chart 76 = .ok (.invokestatic 141, 3) := by decide +kernel
theorem dX10_chart_79 : decode cX10_chart 79 = .ok (.ifCond .eq 41, 3) := by decide +kernel
theorem dX10_chart_82 : decode cX10_chart 82 = .ok (.iload 5, 2) := by decide +kernel
theorem dX10_chart_84 : decode cX10_chart 84 = .ok (.iload 8, 2) := by decide +kernel
theorem dX10_chart_86 : decode cX10_chart 86 = .ok (.iconst 1, 1) := by decide +kernel
theorem dX10_chart_87 : decode cX10_chart 87 = .ok (.if_icmp .le 7, 3) := by decide +kernel
theorem dX10_chart_90 : decode cX10_chart 90 = .ok (.iconst 1, 1) := by decide +kernel
theorem dX10_chart_91 : decode cX10_chart 91 = .ok (.goto 4, 3) := by decide +kernel
theorem dX10_chart_94 : decode cX10_chart 94 = .ok (.iconst 0, 1) := by decide +kernel
theorem dX10_chart_95 : decode cX10_chart 95 = .ok (.invokestatic 141, 3) := by decide +kernel
theorem dX10_chart_98 : decode cX10_chart 98 = .ok (.ifCond .eq 22, 3) := by decide +kernel
theorem dX10_chart_101 : decode cX10_chart 101 = .ok (.iload 6, 2) := by decide +kernel
theorem dX10_chart_103 : decode cX10_chart 103 = .ok (.iload 8, 2) := by decide +kernel
theorem dX10_chart_105 : decode cX10_chart 105 = .ok (.iconst 2, 1) := by decide +kernel
theorem dX10_chart_106 : decode cX10_chart 106 = .ok (.if_icmp .le 7, 3) := by decide +kernel
theorem dX10_chart_109 : decode cX10_chart 109 = .ok (.iconst 1, 1) := by decide +kernel
theorem dX10_chart_110 : decode cX10_chart 110 = .ok (.goto 4, 3) := by decide +kernel
theorem dX10_chart_113 : decode cX10_chart 113 = .ok (.iconst 0, 1) := by decide +kernel
theorem dX10_chart_114 : decode cX10_chart 114 = .ok (.invokestatic 141, 3) := by decide +kernel
theorem dX10_chart_117 : decode cX10_chart 117 = .ok (.ifCond .ne 5, 3) := by decide +kernel
theorem dX10_chart_120 : decode cX10_chart 120 = .ok (.iconst (-1), 1) := by decide +kernel
theorem dX10_chart_121 : decode cX10_chart 121 = .ok (.ireturn, 1) := by decide +kernel
theorem dX10_chart_122 : decode cX10_chart 122 = .ok (.new 29, 3) := by decide +kernel
theorem dX10_chart_125 : decode cX10_chart 125 = .ok (.dup, 1) := by decide +kernel
theorem dX10_chart_126 : decode cX10_chart 126 = .ok (.aload 7, 2) := by decide +kernel
theorem dX10_chart_128 : decode cX10_chart 128 = .ok (.aload_n 0, 1) := by decide +kernel
theorem dX10_chart_129 : decode cX10_chart 129 = .ok (.getfield 130, 3) := by decide +kernel
theorem dX10_chart_132 : decode cX10_chart 132 = .ok (.iload_n 3, 1) := by decide +kernel
theorem dX10_chart_133 : decode cX10_chart 133 = .ok (.invokespecial 145, 3) := by decide +kernel
theorem dX10_chart_136 : decode cX10_chart 136 = .ok (.astore 9, 2) := by decide +kernel
theorem dX10_chart_138 : decode cX10_chart 138 = .ok (.aload 9, 2) := by decide +kernel
theorem dX10_chart_140 : decode cX10_chart 140 = .ok (.iload_n 2, 1) := by decide +kernel
theorem dX10_chart_141 : decode cX10_chart 141 = .ok (.invokevirtual 148, 3) := by decide +kernel
theorem dX10_chart_144 : decode cX10_chart 144 = .ok (.aload 9, 2) := by decide +kernel
theorem dX10_chart_146 : decode cX10_chart 146 = .ok (.iconst 0, 1) := by decide +kernel
theorem dX10_chart_147 : decode cX10_chart 147 = .ok (.iload 4, 2) := by decide +kernel
theorem dX10_chart_149 : decode cX10_chart 149 = .ok (.invokevirtual 151, 3) := by decide +kernel
theorem dX10_chart_152 : decode cX10_chart 152 = .ok (.aload 9, 2) := by decide +kernel
theorem dX10_chart_154 : decode cX10_chart 154 = .ok (.iconst 1, 1) := by decide +kernel
theorem dX10_chart_155 : decode cX10_chart 155 = .ok (.iload 5, 2) := by decide +kernel
theorem dX10_chart_157 : decode cX10_chart 157 = .ok (.invokevirtual 151, 3) := by decide +kernel
theorem dX10_chart_160 : decode cX10_chart 160 = .ok (.aload 9, 2) := by decide +kernel
theorem dX10_chart_162 : decode cX10_chart 162 = .ok (.iconst 2, 1) := by decide +kernel
theorem dX10_chart_163 : decode cX10_chart 163 = .ok (.iload 6, 2) := by decide +kernel
theorem dX10_chart_165 : decode cX10_chart 165 = .ok (.invokevirtual 151, 3) := by decide +kernel
theorem dX10_chart_168 : decode cX10_chart 168 = .ok (.aload_n 0, 1) := by decide +kernel
theorem dX10_chart_169 : decode cX10_chart 169 = .ok (.getfield 31, 3) := by decide +kernel
theorem dX10_chart_172 : decode cX10_chart 172 = .ok (.aload_n 0, 1) := by decide +kernel
theorem dX10_chart_173 : decode cX10_chart 173 = .ok (.getfield 130, 3) := by decide +kernel
theorem dX10_chart_176 : decode cX10_chart 176 = .ok (.aload 9, 2) := by decide +kernel
theorem dX10_chart_178 : decode cX10_chart 178 = .ok (.aastore, 1) := by decide +kernel
theorem dX10_chart_179 : decode cX10_chart 179 = .ok (.aload_n 0, 1) := by decide +kernel
theorem dX10_chart_180 : decode cX10_chart 180 = .ok (.dup, 1) := by decide +kernel
theorem dX10_chart_181 : decode cX10_chart 181 = .ok (.getfield 130, 3) := by decide +kernel
theorem dX10_chart_184 : decode cX10_chart 184 = .ok (.iconst 1, 1) := by decide +kernel
theorem dX10_chart_185 : decode cX10_chart 185 = .ok (.iadd, 1) := by decide +kernel
theorem dX10_chart_186 : decode cX10_chart 186 = .ok (.putfield 130, 3) := by decide +kernel
theorem dX10_chart_189 : decode cX10_chart 189 = .ok (.aload_n 0, 1) := by decide +kernel
theorem dX10_chart_190 : decode cX10_chart 190 = .ok (.getfield 130, 3) := by decide +kernel
theorem dX10_chart_193 : decode cX10_chart 193 = .ok (.iconst 1, 1) := by decide +kernel
theorem dX10_chart_194 : decode cX10_chart 194 = .ok (.isub, 1) := by decide +kernel
theorem dX10_chart_195 : decode cX10_chart 195 = .ok (.ireturn, 1) := by decide +kernel
theorem dX10_reading_0 : decode cX10_reading 0 = .ok (.aload_n 0, 1) := by decide +kernel
theorem dX10_reading_1 : decode cX10_reading 1 = .ok (.iload_n 1, 1) := by decide +kernel
theorem dX10_reading_2 : decode cX10_reading 2 = .ok (.invokevirtual 155, 3) := by decide +kernel
theorem dX10_reading_5 : decode cX10_reading 5 = .ok (.astore_n 3, 1) := by decide +kernel
theorem dX10_reading_6 : decode cX10_reading 6 = .ok (.aload_n 3, 1) := by decide +kernel
theorem dX10_reading_7 : decode cX10_reading 7 = .ok (.ifnull 11, 3) := by decide +kernel
theorem dX10_reading_10 : decode cX10_reading 10 = .ok (.aload_n 3, 1) := by decide +kernel
theorem dX10_reading_11 : decode cX10_reading 11 = .ok (.iload_n 2, 1) := by decide +kernel
theorem dX10_reading_12 : decode cX10_reading 12 = .ok (.invokevirtual 159, 3) := by decide +kernel
theorem dX10_reading_15 : decode cX10_reading 15 = .ok (.ifCond .ne 5, 3) := by decide +kernel
theorem dX10_reading_18 : decode cX10_reading 18 = .ok (.iconst 0, 1) := by decide +kernel
theorem dX10_reading_19 : decode cX10_reading 19 = .ok (.ireturn, 1) := by decide +kernel
theorem dX10_reading_20 : decode cX10_reading 20 = .ok (.aload_n 0, 1) := by decide +kernel
theorem dX10_reading_21 : decode cX10_reading 21 = .ok (.aload_n 3, 1) := by decide +kernel
theorem dX10_reading_22 : decode cX10_reading 22 = .ok (.putfield 162, 3) := by decide +kernel
theorem dX10_reading_25 : decode cX10_reading 25 = .ok (.aload_n 0, 1) := by decide +kernel
theorem dX10_reading_26 : decode cX10_reading 26 = .ok (.iload_n 2, 1) := by decide +kernel
theorem dX10_reading_27 : decode cX10_reading 27 = .ok (.putfield 166, 3) := by decide +kernel
theorem dX10_reading_30 : decode cX10_reading 30 = .ok (.iconst 1, 1) := by decide +kernel
theorem dX10_reading_31 : decode cX10_reading 31 = .ok (.ireturn, 1) := by decide +kernel
theorem dX10_read_0 : decode cX10_read 0 = .ok (.aload_n 0, 1) := by decide +kernel
theorem dX10_read_1 : decode cX10_read 1 = .ok (.getfield 162, 3) := by decide +kernel
theorem dX10_read_4 : decode cX10_read 4 = .ok (.astore_n 3, 1) := by decide +kernel
theorem dX10_read_5 : decode cX10_read 5 = .ok (.aload_n 3, 1) := by decide +kernel
theorem dX10_read_6 : decode cX10_read 6 = .ok (.ifnull 15, 3) := by decide +kernel
theorem dX10_read_9 : decode cX10_read 9 = .ok (.iload_n 1, 1) := by decide +kernel
theorem dX10_read_10 : decode cX10_read 10 = .ok (.ifCond .lt 11, 3) := by decide +kernel
theorem dX10_read_13 : decode cX10_read 13 = .ok (.iload_n 1, 1) := by decide +kernel
theorem dX10_read_14 : decode cX10_read 14 = .ok (.aload_n 0, 1) := by decide +kernel
theorem dX10_read_15 : decode cX10_read 15 = .ok (.getfield 169, 3) := by decide +kernel
theorem dX10_read_18 : decode cX10_read 18 = .ok (.if_icmp .le 6, 3) := by decide +kernel
theorem dX10_read_21 : decode cX10_read 21 = .ok (.ldc 100, 2) := by decide +kernel
theorem dX10_read_23 : decode cX10_read 23 = .ok (.ireturn, 1) := by decide +kernel
theorem dX10_read_24 : decode cX10_read 24 = .ok (.iload_n 2, 1) := by decide +kernel
theorem dX10_read_25 : decode cX10_read 25 = .ok (.ifCond .ne 15, 3) := by decide +kernel
theorem dX10_read_28 : decode cX10_read 28 = .ok (.aload_n 0, 1) := by decide +kernel
theorem dX10_read_29 : decode cX10_read 29 = .ok (.aload_n 3, 1) := by decide +kernel
theorem dX10_read_30 : decode cX10_read 30 = .ok (.aload_n 0, 1) := by decide +kernel
theorem dX10_read_31 : decode cX10_read 31 = .ok (.getfield 166, 3) := by decide +kernel
theorem dX10_read_34 : decode cX10_read 34 = .ok (.iload_n 1, 1) := by decide +kernel
theorem dX10_read_35 : decode cX10_read 35 = .ok (.invokevirtual 172, 3) := by decide +kernel
theorem dX10_read_38 : decode cX10_read 38 = .ok (.l2i, 1) := by decide +kernel
theorem dX10_read_39 : decode cX10_read 39 = .ok (.ireturn, 1) := by decide +kernel
theorem dX10_read_40 : decode cX10_read 40 = .ok (.iload_n 2, 1) := by decide +kernel
theorem dX10_read_41 : decode cX10_read 41 = .ok (.iconst 1, 1) := by decide +kernel
theorem dX10_read_42 : decode cX10_read 42 = .ok (.if_icmp .ne 21, 3) := by decide +kernel
theorem dX10_read_45 : decode cX10_read 45 = .ok (.aload_n 3, 1) := by decide +kernel
theorem dX10_read_46 : decode cX10_read 46 = .ok (.getfield 176, 3) := by decide +kernel
theorem dX10_read_49 : decode cX10_read 49 = .ok (.aload_n 0, 1) := by decide +kernel
theorem dX10_read_50 : decode cX10_read 50 = .ok (.aload_n 3, 1) := by decide +kernel
theorem dX10_read_51 : decode cX10_read 51 = .ok (.aload_n 0, 1) := by decide +kernel
theorem dX10_read_52 : decode cX10_read 52 = .ok (.getfield 166, 3) := by decide +kernel
theorem dX10_read_55 : decode cX10_read 55 = .ok (.iload_n 1, 1) := by decide +kernel
theorem dX10_read_56 : decode cX10_read 56 = .ok (.invokevirtual 172, 3) := by decide +kernel
theorem dX10_read_59 : decode cX10_read 59 = .ok (.invokevirtual 180, 3) := by decide +kernel
theorem dX10_read_62 : decode cX10_read 62 = .ok (.ireturn, 1) := by decide +kernel
theorem dX10_read_63 : decode cX10_read 63 = .ok (.iload_n 2, 1) := by decide +kernel
theorem dX10_read_64 : decode cX10_read 64 = .ok (.iconst 2, 1) := by decide +kernel
theorem dX10_read_65 : decode cX10_read 65 = .ok (.if_icmp .ne 9, 3) := by decide +kernel
theorem dX10_read_68 : decode cX10_read 68 = .ok (.aload_n 0, 1) := by decide +kernel
theorem dX10_read_69 : decode cX10_read 69 = .ok (.aload_n 3, 1) := by decide +kernel
theorem dX10_read_70 : decode cX10_read 70 = .ok (.invokevirtual 184, 3) := by decide +kernel
theorem dX10_read_73 : decode cX10_read 73 = .ok (.ireturn, 1) := by decide +kernel
theorem dX10_read_74 : decode cX10_read 74 = .ok (.ldc 100, 2) := by decide +kernel
theorem dX10_read_76 : decode cX10_read 76 = .ok (.ireturn, 1) := by decide +kernel
theorem dX10_lead_0 : decode cX10_lead 0 = .ok (.aload_n 0, 1) := by decide +kernel
theorem dX10_lead_1 : decode cX10_lead 1 = .ok (.getfield 162, 3) := by decide +kernel
theorem dX10_lead_4 : decode cX10_lead 4 = .ok (.astore_n 3, 1) := by decide +kernel
theorem dX10_lead_5 : decode cX10_lead 5 = .ok (.aload_n 3, 1) := by decide +kernel
theorem dX10_lead_6 : decode cX10_lead 6 = .ok (.ifnull 11, 3) := by decide +kernel
theorem dX10_lead_9 : decode cX10_lead 9 = .ok (.aload_n 3, 1) := by decide +kernel
theorem dX10_lead_10 : decode cX10_lead 10 = .ok (.iload_n 1, 1) := by decide +kernel
theorem dX10_lead_11 : decode cX10_lead 11 = .ok (.invokevirtual 188, 3) := by decide +kernel
theorem dX10_lead_14 : decode cX10_lead 14 = .ok (.ifCond .ne 6, 3) := by decide +kernel
theorem dX10_lead_17 : decode cX10_lead 17 = .ok (.ldc 100, 2) := by decide +kernel
theorem dX10_lead_19 : decode cX10_lead 19 = .ok (.ireturn, 1) := by decide +kernel
theorem dX10_lead_20 : decode cX10_lead 20 = .ok (.aload_n 0, 1) := by decide +kernel
theorem dX10_lead_21 : decode cX10_lead 21 = .ok (.aload_n 3, 1) := by decide +kernel
theorem dX10_lead_22 : decode cX10_lead 22 = .ok (.aload_n 0, 1) := by decide +kernel
theorem dX10_lead_23 : decode cX10_lead 23 = .ok (.getfield 166, 3) := by decide +kernel
theorem dX10_lead_26 : decode cX10_lead 26 = .ok (.aload_n 0, 1) := by decide +kernel
theorem dX10_lead_27 : decode cX10_lead 27 = .ok (.getfield 169, 3) := by decide +kernel
theorem dX10_lead_30 : decode cX10_lead 30 = .ok (.invokevirtual 191, 3) := by decide +kernel
theorem dX10_lead_33 : decode cX10_lead 33 = .ok (.aload_n 0, 1) := by decide +kernel
theorem dX10_lead_34 : decode cX10_lead 34 = .ok (.getfield 60, 3) := by decide +kernel
theorem dX10_lead_37 : decode cX10_lead 37 = .ok (.aload_n 3, 1) := by decide +kernel
theorem dX10_lead_38 : decode cX10_lead 38 = .ok (.aload_n 0, 1) := by decide +kernel
theorem dX10_lead_39 : decode cX10_lead 39 = .ok (.getfield 53, 3) := by decide +kernel
theorem dX10_lead_42 : decode cX10_lead 42 = .ok (.iload_n 1, 1) := by decide +kernel
theorem dX10_lead_43 : decode cX10_lead 43 = .ok (.invokevirtual 195, 3) := by decide +kernel
theorem dX10_lead_46 : decode cX10_lead 46 = .ok (.iload_n 2, 1) := by decide +kernel
theorem dX10_lead_47 : decode cX10_lead 47 = .ok (.tableswitch 65 0 3 #[29, 38, 47, 56], 29) := by decide +kernel
theorem dX10_lead_76 : decode cX10_lead 76 = .ok (.aload_n 0, 1) := by decide +kernel
theorem dX10_lead_77 : decode cX10_lead 77 = .ok (.getfield 60, 3) := by decide +kernel
theorem dX10_lead_80 : decode cX10_lead 80 = .ok (.getfield 199, 3) := by decide +kernel
theorem dX10_lead_83 : decode cX10_lead 83 = .ok (.l2i, 1) := by decide +kernel
theorem dX10_lead_84 : decode cX10_lead 84 = .ok (.ireturn, 1) := by decide +kernel
theorem dX10_lead_85 : decode cX10_lead 85 = .ok (.aload_n 0, 1) := by decide +kernel
theorem dX10_lead_86 : decode cX10_lead 86 = .ok (.getfield 60, 3) := by decide +kernel
theorem dX10_lead_89 : decode cX10_lead 89 = .ok (.getfield 203, 3) := by decide +kernel
theorem dX10_lead_92 : decode cX10_lead 92 = .ok (.l2i, 1) := by decide +kernel
theorem dX10_lead_93 : decode cX10_lead 93 = .ok (.ireturn, 1) := by decide +kernel
theorem dX10_lead_94 : decode cX10_lead 94 = .ok (.aload_n 0, 1) := by decide +kernel
theorem dX10_lead_95 : decode cX10_lead 95 = .ok (.getfield 60, 3) := by decide +kernel
theorem dX10_lead_98 : decode cX10_lead 98 = .ok (.getfield 206, 3) := by decide +kernel
theorem dX10_lead_101 : decode cX10_lead 101 = .ok (.l2i, 1) := by decide +kernel
theorem dX10_lead_102 : decode cX10_lead 102 = .ok (.ireturn, 1) := by decide +kernel
theorem dX10_lead_103 : decode cX10_lead 103 = .ok (.aload_n 0, 1) := by decide +kernel
theorem dX10_lead_104 : decode cX10_lead 104 = .ok (.getfield 60, 3) := by decide +kernel
theorem dX10_lead_107 : decode cX10_lead 107 = .ok (.getfield 209, 3) := by decide +kernel
theorem dX10_lead_110 : decode cX10_lead 110 = .ok (.l2i, 1) := by decide +kernel
theorem dX10_lead_111 : decode cX10_lead 111 = .ok (.ireturn, 1) := by decide +kernel
theorem dX10_lead_112 : decode cX10_lead 112 = .ok (.ldc 100, 2) := by decide +kernel
theorem dX10_lead_114 : decode cX10_lead 114 = .ok (.ireturn, 1) := by decide +kernel
theorem dX10_span_0 : decode cX10_span 0 = .ok (.aload_n 0, 1) := by decide +kernel
theorem dX10_span_1 : decode cX10_span 1 = .ok (.getfield 162, 3) := by decide +kernel
theorem dX10_span_4 : decode cX10_span 4 = .ok (.astore_n 3, 1) := by decide +kernel
theorem dX10_span_5 : decode cX10_span 5 = .ok (.aload_n 3, 1) := by decide +kernel
theorem dX10_span_6 : decode cX10_span 6 = .ok (.ifnull 10, 3) := by decide +kernel
theorem dX10_span_9 : decode cX10_span 9 = .ok (.iload_n 1, 1) := by decide +kernel
theorem dX10_span_10 : decode cX10_span 10 = .ok (.invokestatic 212, 3) := by decide +kernel
theorem dX10_span_13 : decode cX10_span 13 = .ok (.ifCond .ne 6, 3) := by decide +kernel
theorem dX10_span_16 : decode cX10_span 16 = .ok (.ldc 100, 2) := by decide +kernel
theorem dX10_span_18 : decode cX10_span 18 = .ok (.ireturn, 1) := by decide +kernel
theorem dX10_span_19 : decode cX10_span 19 = .ok (.aload_n 0, 1) := by decide +kernel
theorem dX10_span_20 : decode cX10_span 20 = .ok (.aload_n 3, 1) := by decide +kernel
theorem dX10_span_21 : decode cX10_span 21 = .ok (.aload_n 0, 1) := by decide +kernel
theorem dX10_span_22 : decode cX10_span 22 = .ok (.getfield 166, 3) := by decide +kernel
theorem dX10_span_25 : decode cX10_span 25 = .ok (.invokevirtual 215, 3) := by decide +kernel
theorem dX10_span_28 : decode cX10_span 28 = .ok (.aload_n 3, 1) := by decide +kernel
theorem dX10_span_29 : decode cX10_span 29 = .ok (.aload_n 0, 1) := by decide +kernel
theorem dX10_span_30 : decode cX10_span 30 = .ok (.getfield 53, 3) := by decide +kernel
theorem dX10_span_33 : decode cX10_span 33 = .ok (.iload_n 2, 1) := by decide +kernel
theorem dX10_span_34 : decode cX10_span 34 = .ok (.ifCond .eq 7, 3) := by decide +kernel
theorem dX10_span_37 : decode cX10_span 37 = .ok (.iload_n 1, 1) := by decide +kernel
theorem dX10_span_38 : decode cX10_span 38 = .ok (.goto 5, 3) := by decide +kernel
theorem dX10_span_41 : decode cX10_span 41 = .ok (.iload_n 1, 1) := by decide +kernel
theorem dX10_span_42 : decode cX10_span 42 = .ok (.ineg, 1) := by decide +kernel
theorem dX10_span_43 : decode cX10_span 43 = .ok (.invokevirtual 219, 3) := by decide +kernel
theorem dX10_span_46 : decode cX10_span 46 = .ok (.l2i, 1) := by decide +kernel
theorem dX10_span_47 : decode cX10_span 47 = .ok (.ireturn, 1) := by decide +kernel
theorem dX10_page_0 : decode cX10_page 0 = .ok (.aload_n 0, 1) := by decide +kernel
theorem dX10_page_1 : decode cX10_page 1 = .ok (.iload_n 1, 1) := by decide +kernel
theorem dX10_page_2 : decode cX10_page 2 = .ok (.invokevirtual 155, 3) := by decide +kernel
theorem dX10_page_5 : decode cX10_page 5 = .ok (.astore 4, 2) := by decide +kernel
theorem dX10_page_7 : decode cX10_page 7 = .ok (.aload 4, 2) := by decide +kernel
theorem dX10_page_9 : decode cX10_page 9 = .ok (.ifnull 12, 3) := by decide +kernel
theorem dX10_page_12 : decode cX10_page 12 = .ok (.aload 4, 2) := by decide +kernel
theorem dX10_page_14 : decode cX10_page 14 = .ok (.iload_n 2, 1) := by decide +kernel
theorem dX10_page_15 : decode cX10_page 15 = .ok (.invokevirtual 188, 3) := by decide +kernel
theorem dX10_page_18 : decode cX10_page 18 = .ok (.ifCond .ne 5, 3) := by decide +kernel
theorem dX10_page_21 : decode cX10_page 21 = .ok (.iconst (-1), 1) := by decide +kernel
theorem dX10_page_22 : decode cX10_page 22 = .ok (.ireturn, 1) := by decide +kernel
theorem dX10_page_23 : decode cX10_page 23 = .ok (.iload_n 3, 1) := by decide +kernel
theorem dX10_page_24 : decode cX10_page 24 = .ok (.ifCond .ne 11, 3) := by decide +kernel
theorem dX10_page_27 : decode cX10_page 27 = .ok (.aload 4, 2) := by decide +kernel
theorem dX10_page_29 : decode cX10_page 29 = .ok (.iload_n 2, 1) := by decide +kernel
theorem dX10_page_30 : decode cX10_page 30 = .ok (.invokevirtual 223, 3) := by decide +kernel
theorem dX10_page_33 : decode cX10_page 33 = .ok (.l2i, 1) := by decide +kernel
theorem dX10_page_34 : decode cX10_page 34 = .ok (.ireturn, 1) := by decide +kernel
theorem dX10_page_35 : decode cX10_page 35 = .ok (.iload_n 3, 1) := by decide +kernel
theorem dX10_page_36 : decode cX10_page 36 = .ok (.iconst 1, 1) := by decide +kernel
theorem dX10_page_37 : decode cX10_page 37 = .ok (.if_icmp .ne 25, 3) := by decide +kernel
theorem dX10_page_40 : decode cX10_page 40 = .ok (.aload 4, 2) := by decide +kernel
theorem dX10_page_42 : decode cX10_page 42 = .ok (.iload_n 2, 1) := by decide +kernel
theorem dX10_page_43 : decode cX10_page 43 = .ok (.aload 4, 2) := by decide +kernel
theorem dX10_page_45 : decode cX10_page 45 = .ok (.getfield 227, 3) := by decide +kernel
theorem dX10_page_48 : decode cX10_page 48 = .ok (.iload_n 2, 1) := by decide +kernel
theorem dX10_page_49 : decode cX10_page 49 = .ok (.iaload, 1) := by decide +kernel
theorem dX10_page_50 : decode cX10_page 50 = .ok (.aload 4, 2) := by decide +kernel
theorem dX10_page_52 : decode cX10_page 52 = .ok (.getfield 229, 3) := by decide +kernel
theorem dX10_page_55 : decode cX10_page 55 = .ok (.iload_n 2, 1) := by decide +kernel
theorem dX10_page_56 : decode cX10_page 56 = .ok (.iaload, 1) := by decide +kernel
theorem dX10_page_57 : decode cX10_page 57 = .ok (.invokevirtual 231, 3) := by decide +kernel
theorem dX10_page_60 : decode cX10_page 60 = .ok (.l2i, 1) := by decide +kernel
theorem dX10_page_61 : decode cX10_page 61 = .ok (.ireturn, 1) := by decide +kernel
theorem dX10_page_62 : decode cX10_page 62 = .ok (.iconst (-1), 1) := by decide +kernel
theorem dX10_page_63 : decode cX10_page 63 = .ok (.ireturn, 1) := by decide +kernel
theorem dX10_sharpest_0 : decode cX10_sharpest 0 = .ok (.aload_n 0, 1) := by decide +kernel
theorem dX10_sharpest_1 : decode cX10_sharpest 1 = .ok (.iload_n 1, 1) := by decide +kernel
theorem dX10_sharpest_2 : decode cX10_sharpest 2 = .ok (.invokevirtual 155, 3) := by decide +kernel
theorem dX10_sharpest_5 : decode cX10_sharpest 5 = .ok (.astore 4, 2) := by decide +kernel
theorem dX10_sharpest_7 : decode cX10_sharpest 7 = .ok (.aload 4, 2) := by decide +kernel
theorem dX10_sharpest_9 : decode cX10_sharpest 9 = .ok (.ifnull 19, 3) := by decide +kernel
theorem dX10_sharpest_12 : decode cX10_sharpest 12 = .ok (.iload_n 2, 1) := by decide +kernel
theorem dX10_sharpest_13 : decode cX10_sharpest 13 = .ok (.invokestatic 212, 3) := by decide +kernel
theorem dX10_sharpest_16 : decode cX10_sharpest 16 = .ok (.ifCond .eq 12, 3) := by decide +kernel
theorem dX10_sharpest_19 : decode cX10_sharpest 19 = .ok (.iload_n 3, 1) := by decide +kernel
theorem dX10_sharpest_20 : decode cX10_sharpest 20 = .ok (.ifCond .lt 8, 3) := by decide +kernel
theorem dX10_sharpest_23 : decode cX10_sharpest 23 = .ok (.iload_n 3, 1) := by decide +kernel
theorem dX10_sharpest_24 : decode cX10_sharpest 24 = .ok (.iconst 1, 1) := by decide +kernel
theorem dX10_sharpest_25 : decode cX10_sharpest 25 = .ok (.if_icmp .le 5, 3) := by decide +kernel
theorem dX10_sharpest_28 : decode cX10_sharpest 28 = .ok (.iconst (-1), 1) := by decide +kernel
theorem dX10_sharpest_29 : decode cX10_sharpest 29 = .ok (.ireturn, 1) := by decide +kernel
theorem dX10_sharpest_30 : decode cX10_sharpest 30 = .ok (.aload_n 0, 1) := by decide +kernel
theorem dX10_sharpest_31 : decode cX10_sharpest 31 = .ok (.getfield 67, 3) := by decide +kernel
theorem dX10_sharpest_34 : decode cX10_sharpest 34 = .ok (.aload 4, 2) := by decide +kernel
theorem dX10_sharpest_36 : decode cX10_sharpest 36 = .ok (.iload_n 2, 1) := by decide +kernel
theorem dX10_sharpest_37 : decode cX10_sharpest 37 = .ok (.invokevirtual 235, 3) := by decide +kernel
theorem dX10_sharpest_40 : decode cX10_sharpest 40 = .ok (.iload_n 3, 1) := by decide +kernel
theorem dX10_sharpest_41 : decode cX10_sharpest 41 = .ok (.ifCond .ne 13, 3) := by decide +kernel
theorem dX10_sharpest_44 : decode cX10_sharpest 44 = .ok (.aload_n 0, 1) := by decide +kernel
theorem dX10_sharpest_45 : decode cX10_sharpest 45 = .ok (.getfield 67, 3) := by decide +kernel
theorem dX10_sharpest_48 : decode cX10_sharpest 48 = .ok (.getfield 238, 3) := by decide +kernel
theorem dX10_sharpest_51 : decode cX10_sharpest 51 = .ok (.goto 11, 3) := by decide +kernel
theorem dX10_sharpest_54 : decode cX10_sharpest 54 = .ok (.aload_n 0, 1) := by decide +kernel
theorem dX10_sharpest_55 : decode cX10_sharpest 55 = .ok (.getfield 67, 3) := by decide +kernel
theorem dX10_sharpest_58 : decode cX10_sharpest 58 = .ok (.getfield 241, 3) := by decide +kernel
theorem dX10_sharpest_61 : decode cX10_sharpest 61 = .ok (.l2i, 1) := by decide +kernel
theorem dX10_sharpest_62 : decode cX10_sharpest 62 = .ok (.ireturn, 1) := by decide +kernel
theorem dX10_list_0 : decode cX10_list 0 = .ok (.iload_n 1, 1) := by decide +kernel
theorem dX10_list_1 : decode cX10_list 1 = .ok (.iconst 1, 1) := by decide +kernel
theorem dX10_list_2 : decode cX10_list 2 = .ok (.if_icmp .lt 25, 3) := by decide +kernel
theorem dX10_list_5 : decode cX10_list 5 = .ok (.iload_n 1, 1) := by decide +kernel
theorem dX10_list_6 : decode cX10_list 6 = .ok (.bipush 50, 2) := by decide +kernel
theorem dX10_list_8 : decode cX10_list 8 = .ok (.if_icmp .gt 19, 3) := by decide +kernel
theorem dX10_list_11 : decode cX10_list 11 = .ok (.aload_n 0, 1) := by decide +kernel
theorem dX10_list_12 : decode cX10_list 12 = .ok (.getfield 244, 3) := by decide +kernel
theorem dX10_list_15 : decode cX10_list 15 = .ok (.iconst 4, 1) := by decide +kernel
theorem dX10_list_16 : decode cX10_list 16 = .ok (.if_icmp .ge 11, 3) := by decide +kernel
theorem dX10_list_19 : decode cX10_list 19 = .ok (.aload_n 0, 1) := by decide +kernel
theorem dX10_list_20 : decode cX10_list 20 = .ok (.iload_n 1, 1) := by decide +kernel
theorem dX10_list_21 : decode cX10_list 21 = .ok (.invokevirtual 247, 3) := by decide +kernel
theorem dX10_list_24 : decode cX10_list 24 = .ok (.ifCond .eq 5, 3) := by decide +kernel
theorem dX10_list_27 : decode cX10_list 27 = .ok (.iconst (-1), 1) := by decide +kernel
theorem dX10_list_28 : decode cX10_list 28 = .ok (.ireturn, 1) := by decide +kernel
theorem dX10_list_29 : decode cX10_list 29 = .ok (.aload_n 0, 1) := by decide +kernel
theorem dX10_list_30 : decode cX10_list 30 = .ok (.getfield 35, 3) := by decide +kernel
theorem dX10_list_33 : decode cX10_list 33 = .ok (.aload_n 0, 1) := by decide +kernel
theorem dX10_list_34 : decode cX10_list 34 = .ok (.getfield 244, 3) := by decide +kernel
theorem dX10_list_37 : decode cX10_list 37 = .ok (.iload_n 1, 1) := by decide +kernel
theorem dX10_list_38 : decode cX10_list 38 = .ok (.iastore, 1) := by decide +kernel
theorem dX10_list_39 : decode cX10_list 39 = .ok (.aload_n 0, 1) := by decide +kernel
theorem dX10_list_40 : decode cX10_list 40 = .ok (.dup, 1) := by decide +kernel
theorem dX10_list_41 : decode cX10_list 41 = .ok (.getfield 244, 3) := by decide +kernel
theorem dX10_list_44 : decode cX10_list 44 = .ok (.iconst 1, 1) := by decide +kernel
theorem dX10_list_45 : decode cX10_list 45 = .ok (.iadd, 1) := by decide +kernel
theorem dX10_list_46 : decode cX10_list 46 = .ok (.putfield 244, 3) := by decide +kernel
theorem dX10_list_49 : decode cX10_list 49 = .ok (.aload_n 0, 1) := by decide +kernel
theorem dX10_list_50 : decode cX10_list 50 = .ok (.getfield 244, 3) := by decide +kernel
theorem dX10_list_53 : decode cX10_list 53 = .ok (.ireturn, 1) := by decide +kernel
theorem dX10_clear_0 : decode cX10_clear 0 = .ok (.aload_n 0, 1) := by decide +kernel
theorem dX10_clear_1 : decode cX10_clear 1 = .ok (.getfield 244, 3) := by decide +kernel
theorem dX10_clear_4 : decode cX10_clear 4 = .ok (.istore_n 1, 1) := by decide +kernel
theorem dX10_clear_5 : decode cX10_clear 5 = .ok (.aload_n 0, 1) := by decide +kernel
theorem dX10_clear_6 : decode cX10_clear 6 = .ok (.iconst 0, 1) := by decide +kernel
theorem dX10_clear_7 : decode cX10_clear 7 = .ok (.putfield 244, 3) := by decide +kernel
theorem dX10_clear_10 : decode cX10_clear 10 = .ok (.iload_n 1, 1) := by decide +kernel
theorem dX10_clear_11 : decode cX10_clear 11 = .ok (.ireturn, 1) := by decide +kernel
theorem dX10_finest_0 : decode cX10_finest 0 = .ok (.aload_n 0, 1) := by decide +kernel
theorem dX10_finest_1 : decode cX10_finest 1 = .ok (.iload_n 1, 1) := by decide +kernel
theorem dX10_finest_2 : decode cX10_finest 2 = .ok (.invokevirtual 155, 3) := by decide +kernel
theorem dX10_finest_5 : decode cX10_finest 5 = .ok (.astore 4, 2) := by decide +kernel
theorem dX10_finest_7 : decode cX10_finest 7 = .ok (.aload 4, 2) := by decide +kernel
theorem dX10_finest_9 : decode cX10_finest 9 = .ok (.ifnull 25, 3) := by decide +kernel
theorem dX10_finest_12 : decode cX10_finest 12 = .ok (.aload 4, 2) := by decide +kernel
theorem dX10_finest_14 : decode cX10_finest 14 = .ok (.iload_n 3, 1) := by decide +kernel
theorem dX10_finest_15 : decode cX10_finest 15 = .ok (.invokevirtual 188, 3) := by decide +kernel
theorem dX10_finest_18 : decode cX10_finest 18 = .ok (.ifCond .eq 16, 3) := by decide +kernel
theorem dX10_finest_21 : decode cX10_finest 21 = .ok (.iload_n 2, 1) := by decide +kernel
theorem dX10_finest_22 : decode cX10_finest 22 = .ok (.bipush 10, 2) := by decide +kernel
theorem dX10_finest_24 : decode cX10_finest 24 = .ok (.if_icmp .lt 10, 3) := by decide +kernel
theorem dX10_finest_27 : decode cX10_finest 27 = .ok (.iload_n 2, 1) := by decide +kernel
theorem dX10_finest_28 : decode cX10_finest 28 = .ok (.sipush 30000, 3) := by decide +kernel
theorem dX10_finest_31 : decode cX10_finest 31 = .ok (.if_icmp .le 5, 3) := by decide +kernel
theorem dX10_finest_34 : decode cX10_finest 34 = .ok (.iconst (-1), 1) := by decide +kernel
theorem dX10_finest_35 : decode cX10_finest 35 = .ok (.ireturn, 1) := by decide +kernel
theorem dX10_finest_36 : decode cX10_finest 36 = .ok (.iconst (-1), 1) := by decide +kernel
theorem dX10_finest_37 : decode cX10_finest 37 = .ok (.istore 5, 2) := by decide +kernel
theorem dX10_finest_39 : decode cX10_finest 39 = .ok (.iconst 0, 1) := by decide +kernel
theorem dX10_finest_40 : decode cX10_finest 40 = .ok (.istore 6, 2) := by decide +kernel
theorem dX10_finest_42 : decode cX10_finest 42 = .ok (.iload 6, 2) := by decide +kernel
theorem dX10_finest_44 : decode cX10_finest 44 = .ok (.aload 4, 2) := by decide +kernel
theorem dX10_finest_46 : decode cX10_finest 46 = .ok (.getfield 250, 3) := by decide +kernel
theorem dX10_finest_49 : decode cX10_finest 49 = .ok (.if_icmp .ge 45, 3) := by decide +kernel
theorem dX10_finest_52 : decode cX10_finest 52 = .ok (.aload 4, 2) := by decide +kernel
theorem dX10_finest_54 : decode cX10_finest 54 = .ok (.iload 6, 2) := by decide +kernel
theorem dX10_finest_56 : decode cX10_finest 56 = .ok (.iload_n 2, 1) := by decide +kernel
theorem dX10_finest_57 : decode cX10_finest 57 = .ok (.aload_n 0, 1) := by decide +kernel
theorem dX10_finest_58 : decode cX10_finest 58 = .ok (.getfield 35, 3) := by decide +kernel
theorem dX10_finest_61 : decode cX10_finest 61 = .ok (.aload_n 0, 1) := by decide +kernel
theorem dX10_finest_62 : decode cX10_finest 62 = .ok (.getfield 244, 3) := by decide +kernel
theorem dX10_finest_65 : decode cX10_finest 65 = .ok (.invokevirtual 253, 3) := by decide +kernel
theorem dX10_finest_68 : decode cX10_finest 68 = .ok (.istore 7, 2) := by decide +kernel
theorem dX10_finest_70 : decode cX10_finest 70 = .ok (.iload 7, 2) := by decide +kernel
theorem dX10_finest_72 : decode cX10_finest 72 = .ok (.iconst (-1), 1) := by decide +kernel
theorem dX10_finest_73 : decode cX10_finest 73 = .ok (.if_icmp .ne 5, 3) := by decide +kernel
theorem dX10_finest_76 : decode cX10_finest 76 = .ok (.iconst (-1), 1) := by decide +kernel
theorem dX10_finest_77 : decode cX10_finest 77 = .ok (.ireturn, 1) := by decide +kernel
theorem dX10_finest_78 : decode cX10_finest 78 = .ok (.iload 6, 2) := by decide +kernel
theorem dX10_finest_80 : decode cX10_finest 80 = .ok (.iload_n 3, 1) := by decide +kernel
theorem dX10_finest_81 : decode cX10_finest 81 = .ok (.if_icmp .ne 7, 3) := by decide +kernel
theorem dX10_finest_84 : decode cX10_finest 84 = .ok (.iload 7, 2) := by decide +kernel
theorem dX10_finest_86 : decode cX10_finest 86 = .ok (.istore 5, 2) := by decide +kernel
theorem dX10_finest_88 : decode cX10_finest 88 = .ok (.iinc 6 1, 3) := by decide +kernel
theorem dX10_finest_91 : decode cX10_finest 91 = .ok (.goto (-49), 3) := by decide +kernel
theorem dX10_finest_94 : decode cX10_finest 94 = .ok (.iload 5, 2) := by decide +kernel
theorem dX10_finest_96 : decode cX10_finest 96 = .ok (.ireturn, 1) := by decide +kernel
theorem dX10_paper_0 : decode cX10_paper 0 = .ok (.aload_n 0, 1) := by decide +kernel
theorem dX10_paper_1 : decode cX10_paper 1 = .ok (.iload_n 1, 1) := by decide +kernel
theorem dX10_paper_2 : decode cX10_paper 2 = .ok (.invokevirtual 155, 3) := by decide +kernel
theorem dX10_paper_5 : decode cX10_paper 5 = .ok (.astore 5, 2) := by decide +kernel
theorem dX10_paper_7 : decode cX10_paper 7 = .ok (.aload 5, 2) := by decide +kernel
theorem dX10_paper_9 : decode cX10_paper 9 = .ok (.ifnull 32, 3) := by decide +kernel
theorem dX10_paper_12 : decode cX10_paper 12 = .ok (.iload_n 2, 1) := by decide +kernel
theorem dX10_paper_13 : decode cX10_paper 13 = .ok (.sipush (-30000), 3) := by decide +kernel
theorem dX10_paper_16 : decode cX10_paper 16 = .ok (.if_icmp .lt 25, 3) := by decide +kernel
theorem dX10_paper_19 : decode cX10_paper 19 = .ok (.iload_n 2, 1) := by decide +kernel
theorem dX10_paper_20 : decode cX10_paper 20 = .ok (.sipush 30000, 3) := by decide +kernel
theorem dX10_paper_23 : decode cX10_paper 23 = .ok (.if_icmp .gt 18, 3) := by decide +kernel
theorem dX10_paper_26 : decode cX10_paper 26 = .ok (.iload_n 3, 1) := by decide +kernel
theorem dX10_paper_27 : decode cX10_paper 27 = .ok (.invokestatic 257, 3) := by decide +kernel
theorem dX10_paper_30 : decode cX10_paper 30 = .ok (.ifCond .eq 11, 3) := by decide +kernel
theorem dX10_paper_33 : decode cX10_paper 33 = .ok (.iload 4, 2) := by decide +kernel
theorem dX10_paper_35 : decode cX10_paper 35 = .ok (.invokestatic 257, 3) := by decide +kernel
theorem dX10_paper_38 : decode cX10_paper 38 = .ok (.ifCond .ne 5, 3) := by decide +kernel
theorem dX10_paper_41 : decode cX10_paper 41 = .ok (.iconst 0, 1) := by decide +kernel
theorem dX10_paper_42 : decode cX10_paper 42 = .ok (.ireturn, 1) := by decide +kernel
theorem dX10_paper_43 : decode cX10_paper 43 = .ok (.aload 5, 2) := by decide +kernel
theorem dX10_paper_45 : decode cX10_paper 45 = .ok (.getfield 260, 3) := by decide +kernel
theorem dX10_paper_48 : decode cX10_paper 48 = .ok (.iload_n 2, 1) := by decide +kernel
theorem dX10_paper_49 : decode cX10_paper 49 = .ok (.iload_n 3, 1) := by decide +kernel
theorem dX10_paper_50 : decode cX10_paper 50 = .ok (.iload 4, 2) := by decide +kernel
theorem dX10_paper_52 : decode cX10_paper 52 = .ok (.invokevirtual 264, 3) := by decide +kernel
theorem dX10_paper_55 : decode cX10_paper 55 = .ok (.aload_n 0, 1) := by decide +kernel
theorem dX10_paper_56 : decode cX10_paper 56 = .ok (.getfield 49, 3) := by decide +kernel
theorem dX10_paper_59 : decode cX10_paper 59 = .ok (.invokevirtual 270, 3) := by decide +kernel
theorem dX10_paper_62 : decode cX10_paper 62 = .ok (.iconst 1, 1) := by decide +kernel
theorem dX10_paper_63 : decode cX10_paper 63 = .ok (.ireturn, 1) := by decide +kernel
theorem dX10_swelled_0 : decode cX10_swelled 0 = .ok (.aload_n 0, 1) := by decide +kernel
theorem dX10_swelled_1 : decode cX10_swelled 1 = .ok (.iload_n 1, 1) := by decide +kernel
theorem dX10_swelled_2 : decode cX10_swelled 2 = .ok (.invokevirtual 155, 3) := by decide +kernel
theorem dX10_swelled_5 : decode cX10_swelled 5 = .ok (.astore 4, 2) := by decide +kernel
theorem dX10_swelled_7 : decode cX10_swelled 7 = .ok (.aload 4, 2) := by decide +kernel
theorem dX10_swelled_9 : decode cX10_swelled 9 = .ok (.ifnull 17, 3) := by decide +kernel
theorem dX10_swelled_12 : decode cX10_swelled 12 = .ok (.iload_n 2, 1) := by decide +kernel
theorem dX10_swelled_13 : decode cX10_swelled 13 = .ok (.ldc_w 273, 3) := by decide +kernel
theorem dX10_swelled_16 : decode cX10_swelled 16 = .ok (.if_icmp .lt 10, 3) := by decide +kernel
theorem dX10_swelled_19 : decode cX10_swelled 19 = .ok (.iload_n 2, 1) := by decide +kernel
theorem dX10_swelled_20 : decode cX10_swelled 20 = .ok (.ldc_w 274, 3) := by decide +kernel
theorem dX10_swelled_23 : decode cX10_swelled 23 = .ok (.if_icmp .le 6, 3) := by decide +kernel
theorem dX10_swelled_26 : decode cX10_swelled 26 = .ok (.ldc 100, 2) := by decide +kernel
theorem dX10_swelled_28 : decode cX10_swelled 28 = .ok (.ireturn, 1) := by decide +kernel
theorem dX10_swelled_29 : decode cX10_swelled 29 = .ok (.iload_n 3, 1) := by decide +kernel
theorem dX10_swelled_30 : decode cX10_swelled 30 = .ok (.ifCond .eq 16, 3) := by decide +kernel
theorem dX10_swelled_33 : decode cX10_swelled 33 = .ok (.aload 4, 2) := by decide +kernel
theorem dX10_swelled_35 : decode cX10_swelled 35 = .ok (.getfield 260, 3) := by decide +kernel
theorem dX10_swelled_38 : decode cX10_swelled 38 = .ok (.iload_n 2, 1) := by decide +kernel
theorem dX10_swelled_39 : decode cX10_swelled 39 = .ok (.i2l, 1) := by decide +kernel
theorem dX10_swelled_40 : decode cX10_swelled 40 = .ok (.invokevirtual 275, 3) := by decide +kernel
theorem dX10_swelled_43 : decode cX10_swelled 43 = .ok (.goto 13, 3) := by decide +kernel
theorem dX10_swelled_46 : decode cX10_swelled 46 = .ok (.aload 4, 2) := by decide +kernel
theorem dX10_swelled_48 : decode cX10_swelled 48 = .ok (.getfield 260, 3) := by decide +kernel
theorem dX10_swelled_51 : decode cX10_swelled 51 = .ok (.iload_n 2, 1) := by decide +kernel
theorem dX10_swelled_52 : decode cX10_swelled 52 = .ok (.i2l, 1) := by decide +kernel
theorem dX10_swelled_53 : decode cX10_swelled 53 = .ok (.invokevirtual 279, 3) := by decide +kernel
theorem dX10_swelled_56 : decode cX10_swelled 56 = .ok (.l2i, 1) := by decide +kernel
theorem dX10_swelled_57 : decode cX10_swelled 57 = .ok (.ireturn, 1) := by decide +kernel
theorem dX10_go_0 : decode cX10_go 0 = .ok (.iload_n 1, 1) := by decide +kernel
theorem dX10_go_1 : decode cX10_go 1 = .ok (.ifCond .lt 9, 3) := by decide +kernel
theorem dX10_go_4 : decode cX10_go 4 = .ok (.iload_n 1, 1) := by decide +kernel
theorem dX10_go_5 : decode cX10_go 5 = .ok (.bipush 50, 2) := by decide +kernel
theorem dX10_go_7 : decode cX10_go 7 = .ok (.if_icmp .le 5, 3) := by decide +kernel
theorem dX10_go_10 : decode cX10_go 10 = .ok (.iconst (-1), 1) := by decide +kernel
theorem dX10_go_11 : decode cX10_go 11 = .ok (.ireturn, 1) := by decide +kernel
theorem dX10_go_12 : decode cX10_go 12 = .ok (.aload_n 0, 1) := by decide +kernel
theorem dX10_go_13 : decode cX10_go 13 = .ok (.aload_n 0, 1) := by decide +kernel
theorem dX10_go_14 : decode cX10_go 14 = .ok (.getfield 169, 3) := by decide +kernel
theorem dX10_go_17 : decode cX10_go 17 = .ok (.iload_n 1, 1) := by decide +kernel
theorem dX10_go_18 : decode cX10_go 18 = .ok (.iadd, 1) := by decide +kernel
theorem dX10_go_19 : decode cX10_go 19 = .ok (.sipush 300, 3) := by decide +kernel
theorem dX10_go_22 : decode cX10_go 22 = .ok (.invokestatic 282, 3) := by decide +kernel
theorem dX10_go_25 : decode cX10_go 25 = .ok (.putfield 169, 3) := by decide +kernel
theorem dX10_go_28 : decode cX10_go 28 = .ok (.aload_n 0, 1) := by decide +kernel
theorem dX10_go_29 : decode cX10_go 29 = .ok (.getfield 169, 3) := by decide +kernel
theorem dX10_go_32 : decode cX10_go 32 = .ok (.ireturn, 1) := by decide +kernel
theorem dX10_move_0 : decode cX10_move 0 = .ok (.aload_n 0, 1) := by decide +kernel
theorem dX10_move_1 : decode cX10_move 1 = .ok (.iload_n 1, 1) := by decide +kernel
theorem dX10_move_2 : decode cX10_move 2 = .ok (.invokevirtual 155, 3) := by decide +kernel
theorem dX10_move_5 : decode cX10_move 5 = .ok (.astore 5, 2) := by decide +kernel
theorem dX10_move_7 : decode cX10_move 7 = .ok (.aload 5, 2) := by decide +kernel
theorem dX10_move_9 : decode cX10_move 9 = .ok (.ifnull 31, 3) := by decide +kernel
theorem dX10_move_12 : decode cX10_move 12 = .ok (.iload_n 2, 1) := by decide +kernel
theorem dX10_move_13 : decode cX10_move 13 = .ok (.iconst 1, 1) := by decide +kernel
theorem dX10_move_14 : decode cX10_move 14 = .ok (.if_icmp .lt 26, 3) := by decide +kernel
theorem dX10_move_17 : decode cX10_move 17 = .ok (.aload 5, 2) := by decide +kernel
theorem dX10_move_19 : decode cX10_move 19 = .ok (.getfield 176, 3) := by decide +kernel
theorem dX10_move_22 : decode cX10_move 22 = .ok (.iload_n 2, 1) := by decide +kernel
theorem dX10_move_23 : decode cX10_move 23 = .ok (.iload_n 3, 1) := by decide +kernel
theorem dX10_move_24 : decode cX10_move 24 = .ok (.invokevirtual 122, 3) := by decide +kernel
theorem dX10_move_27 : decode cX10_move 27 = .ok (.ifCond .eq 13, 3) := by decide +kernel
theorem dX10_move_30 : decode cX10_move 30 = .ok (.aload_n 0, 1) := by decide +kernel
theorem dX10_move_31 : decode cX10_move 31 = .ok (.getfield 42, 3) := by decide +kernel
theorem dX10_move_34 : decode cX10_move 34 = .ok (.invokevirtual 287, 3) := by decide +kernel
theorem dX10_move_37 : decode cX10_move 37 = .ok (.ifCond .eq 5, 3) := by decide +kernel
theorem dX10_move_40 : decode cX10_move 40 = .ok (.iconst (-1), 1) := by decide +kernel
theorem dX10_move_41 : decode cX10_move 41 = .ok (.ireturn, 1) := by decide +kernel
theorem dX10_move_42 : decode cX10_move 42 = .ok (.iload 4, 2) := by decide +kernel
theorem dX10_move_44 : decode cX10_move 44 = .ok (.ldc_w 290, 3) := by decide +kernel
theorem dX10_move_47 : decode cX10_move 47 = .ok (.if_icmp .lt 11, 3) := by decide +kernel
theorem dX10_move_50 : decode cX10_move 50 = .ok (.iload 4, 2) := by decide +kernel
theorem dX10_move_52 : decode cX10_move 52 = .ok (.ldc_w 291, 3) := by decide +kernel
theorem dX10_move_55 : decode cX10_move 55 = .ok (.if_icmp .le 5, 3) := by decide +kernel
theorem dX10_move_58 : decode cX10_move 58 = .ok (.iconst (-1), 1) := by decide +kernel
theorem dX10_move_59 : decode cX10_move 59 = .ok (.ireturn, 1) := by decide +kernel
theorem dX10_move_60 : decode cX10_move 60 = .ok (.aload_n 0, 1) := by decide +kernel
theorem dX10_move_61 : decode cX10_move 61 = .ok (.getfield 42, 3) := by decide +kernel
theorem dX10_move_64 : decode cX10_move 64 = .ok (.iload_n 1, 1) := by decide +kernel
theorem dX10_move_65 : decode cX10_move 65 = .ok (.iload_n 2, 1) := by decide +kernel
theorem dX10_move_66 : decode cX10_move 66 = .ok (.iload_n 3, 1) := by decide +kernel
theorem dX10_move_67 : decode cX10_move 67 = .ok (.iload 4, 2) := by decide +kernel
theorem dX10_move_69 : decode cX10_move 69 = .ok (.aload_n 0, 1) := by decide +kernel
theorem dX10_move_70 : decode cX10_move 70 = .ok (.getfield 169, 3) := by decide +kernel
theorem dX10_move_73 : decode cX10_move 73 = .ok (.invokevirtual 292, 3) := by decide +kernel
theorem dX10_move_76 : decode cX10_move 76 = .ok (.aload_n 0, 1) := by decide +kernel
theorem dX10_move_77 : decode cX10_move 77 = .ok (.getfield 49, 3) := by decide +kernel
theorem dX10_move_80 : decode cX10_move 80 = .ok (.invokevirtual 270, 3) := by decide +kernel
theorem dX10_move_83 : decode cX10_move 83 = .ok (.aload_n 0, 1) := by decide +kernel
theorem dX10_move_84 : decode cX10_move 84 = .ok (.getfield 42, 3) := by decide +kernel
theorem dX10_move_87 : decode cX10_move 87 = .ok (.getfield 295, 3) := by decide +kernel
theorem dX10_move_90 : decode cX10_move 90 = .ok (.ireturn, 1) := by decide +kernel
theorem dX10_report_0 : decode cX10_report 0 = .ok (.aload_n 0, 1) := by decide +kernel
theorem dX10_report_1 : decode cX10_report 1 = .ok (.getfield 162, 3) := by decide +kernel
theorem dX10_report_4 : decode cX10_report 4 = .ok (.astore_n 3, 1) := by decide +kernel
theorem dX10_report_5 : decode cX10_report 5 = .ok (.aload_n 3, 1) := by decide +kernel
theorem dX10_report_6 : decode cX10_report 6 = .ok (.ifnull 31, 3) := by decide +kernel
theorem dX10_report_9 : decode cX10_report 9 = .ok (.iload_n 1, 1) := by decide +kernel
theorem dX10_report_10 : decode cX10_report 10 = .ok (.invokestatic 298, 3) := by decide +kernel
theorem dX10_report_13 : decode cX10_report 13 = .ok (.ifCond .eq 24, 3) := by decide +kernel
theorem dX10_report_16 : decode cX10_report 16 = .ok (.iload_n 2, 1) := by decide +kernel
theorem dX10_report_17 : decode cX10_report 17 = .ok (.ifCond .lt 20, 3) := by decide +kernel
theorem dX10_report_20 : decode cX10_report 20 = .ok (.iload_n 2, 1) := by decide +kernel
theorem dX10_report_21 : decode cX10_report 21 = .ok (.sipush 399, 3) := by decide +kernel
theorem dX10_report_24 : decode cX10_report 24 = .ok (.if_icmp .gt 13, 3) := by decide +kernel
theorem dX10_report_27 : decode cX10_report 27 = .ok (.aload_n 0, 1) := by decide +kernel
theorem dX10_report_28 : decode cX10_report 28 = .ok (.getfield 49, 3) := by decide +kernel
theorem dX10_report_31 : decode cX10_report 31 = .ok (.invokevirtual 301, 3) := by decide +kernel
theorem dX10_report_34 : decode cX10_report 34 = .ok (.ifCond .eq 5, 3) := by decide +kernel
theorem dX10_report_37 : decode cX10_report 37 = .ok (.iconst (-1), 1) := by decide +kernel
theorem dX10_report_38 : decode cX10_report 38 = .ok (.ireturn, 1) := by decide +kernel
theorem dX10_report_39 : decode cX10_report 39 = .ok (.aload_n 0, 1) := by decide +kernel
theorem dX10_report_40 : decode cX10_report 40 = .ok (.getfield 49, 3) := by decide +kernel
theorem dX10_report_43 : decode cX10_report 43 = .ok (.iload_n 1, 1) := by decide +kernel
theorem dX10_report_44 : decode cX10_report 44 = .ok (.aload_n 3, 1) := by decide +kernel
theorem dX10_report_45 : decode cX10_report 45 = .ok (.getfield 302, 3) := by decide +kernel
theorem dX10_report_48 : decode cX10_report 48 = .ok (.aload_n 0, 1) := by decide +kernel
theorem dX10_report_49 : decode cX10_report 49 = .ok (.getfield 166, 3) := by decide +kernel
theorem dX10_report_52 : decode cX10_report 52 = .ok (.iload_n 2, 1) := by decide +kernel
theorem dX10_report_53 : decode cX10_report 53 = .ok (.aload_n 0, 1) := by decide +kernel
theorem dX10_report_54 : decode cX10_report 54 = .ok (.getfield 169, 3) := by decide +kernel
theorem dX10_report_57 : decode cX10_report 57 = .ok (.invokevirtual 305, 3) := by decide +kernel
theorem dX10_report_60 : decode cX10_report 60 = .ok (.aload_n 0, 1) := by decide +kernel
theorem dX10_report_61 : decode cX10_report 61 = .ok (.getfield 49, 3) := by decide +kernel
theorem dX10_report_64 : decode cX10_report 64 = .ok (.getfield 306, 3) := by decide +kernel
theorem dX10_report_67 : decode cX10_report 67 = .ok (.ireturn, 1) := by decide +kernel
theorem dX10_due_0 : decode cX10_due 0 = .ok (.aload_n 0, 1) := by decide +kernel
theorem dX10_due_1 : decode cX10_due 1 = .ok (.getfield 49, 3) := by decide +kernel
theorem dX10_due_4 : decode cX10_due 4 = .ok (.iload_n 1, 1) := by decide +kernel
theorem dX10_due_5 : decode cX10_due 5 = .ok (.invokevirtual 307, 3) := by decide +kernel
theorem dX10_due_8 : decode cX10_due 8 = .ok (.ifCond .eq 10, 3) := by decide +kernel
theorem dX10_due_11 : decode cX10_due 11 = .ok (.iload_n 2, 1) := by decide +kernel
theorem dX10_due_12 : decode cX10_due 12 = .ok (.invokestatic 310, 3) := by decide +kernel
theorem dX10_due_15 : decode cX10_due 15 = .ok (.ifCond .ne 6, 3) := by decide +kernel
theorem dX10_due_18 : decode cX10_due 18 = .ok (.ldc 100, 2) := by decide +kernel
theorem dX10_due_20 : decode cX10_due 20 = .ok (.ireturn, 1) := by decide +kernel
theorem dX10_due_21 : decode cX10_due 21 = .ok (.aload_n 0, 1) := by decide +kernel
theorem dX10_due_22 : decode cX10_due 22 = .ok (.invokevirtual 313, 3) := by decide +kernel
theorem dX10_due_25 : decode cX10_due 25 = .ok (.iload_n 3, 1) := by decide +kernel
theorem dX10_due_26 : decode cX10_due 26 = .ok (.ifCond .ne 13, 3) := by decide +kernel
theorem dX10_due_29 : decode cX10_due 29 = .ok (.aload_n 0, 1) := by decide +kernel
theorem dX10_due_30 : decode cX10_due 30 = .ok (.getfield 49, 3) := by decide +kernel
theorem dX10_due_33 : decode cX10_due 33 = .ok (.getfield 316, 3) := by decide +kernel
theorem dX10_due_36 : decode cX10_due 36 = .ok (.iload_n 1, 1) := by decide +kernel
theorem dX10_due_37 : decode cX10_due 37 = .ok (.iaload, 1) := by decide +kernel
theorem dX10_due_38 : decode cX10_due 38 = .ok (.ireturn, 1) := by decide +kernel
theorem dX10_due_39 : decode cX10_due 39 = .ok (.iload_n 3, 1) := by decide +kernel
theorem dX10_due_40 : decode cX10_due 40 = .ok (.iconst 1, 1) := by decide +kernel
theorem dX10_due_41 : decode cX10_due 41 = .ok (.if_icmp .ne 21, 3) := by decide +kernel
theorem dX10_due_44 : decode cX10_due 44 = .ok (.aload_n 0, 1) := by decide +kernel
theorem dX10_due_45 : decode cX10_due 45 = .ok (.getfield 49, 3) := by decide +kernel
theorem dX10_due_48 : decode cX10_due 48 = .ok (.iload_n 1, 1) := by decide +kernel
theorem dX10_due_49 : decode cX10_due 49 = .ok (.iload_n 2, 1) := by decide +kernel
theorem dX10_due_50 : decode cX10_due 50 = .ok (.invokevirtual 319, 3) := by decide +kernel
theorem dX10_due_53 : decode cX10_due 53 = .ok (.ifCond .eq 7, 3) := by decide +kernel
theorem dX10_due_56 : decode cX10_due 56 = .ok (.iconst 1, 1) := by decide +kernel
theorem dX10_due_57 : decode cX10_due 57 = .ok (.goto 4, 3) := by decide +kernel
theorem dX10_due_60 : decode cX10_due 60 = .ok (.iconst 0, 1) := by decide +kernel
theorem dX10_due_61 : decode cX10_due 61 = .ok (.ireturn, 1) := by decide +kernel
theorem dX10_due_62 : decode cX10_due 62 = .ok (.ldc 100, 2) := by decide +kernel
theorem dX10_due_64 : decode cX10_due 64 = .ok (.ireturn, 1) := by decide +kernel
theorem dX10_habit_0 : decode cX10_habit 0 = .ok (.iload_n 1, 1) := by decide +kernel
theorem dX10_habit_1 : decode cX10_habit 1 = .ok (.invokestatic 298, 3) := by decide +kernel
theorem dX10_habit_4 : decode cX10_habit 4 = .ok (.ifCond .ne 6, 3) := by decide +kernel
theorem dX10_habit_7 : decode cX10_habit 7 = .ok (.ldc 100, 2) := by decide +kernel
theorem dX10_habit_9 : decode cX10_habit 9 = .ok (.ireturn, 1) := by decide +kernel
theorem dX10_habit_10 : decode cX10_habit 10 = .ok (.aload_n 0, 1) := by decide +kernel
theorem dX10_habit_11 : decode cX10_habit 11 = .ok (.invokevirtual 313, 3) := by decide +kernel
theorem dX10_habit_14 : decode cX10_habit 14 = .ok (.aload_n 0, 1) := by decide +kernel
theorem dX10_habit_15 : decode cX10_habit 15 = .ok (.getfield 49, 3) := by decide +kernel
theorem dX10_habit_18 : decode cX10_habit 18 = .ok (.iload_n 1, 1) := by decide +kernel
theorem dX10_habit_19 : decode cX10_habit 19 = .ok (.invokevirtual 322, 3) := by decide +kernel
theorem dX10_habit_22 : decode cX10_habit 22 = .ok (.ireturn, 1) := by decide +kernel
theorem dX10_suspects_0 : decode cX10_suspects 0 = .ok (.aload_n 0, 1) := by decide +kernel
theorem dX10_suspects_1 : decode cX10_suspects 1 = .ok (.iload_n 1, 1) := by decide +kernel
theorem dX10_suspects_2 : decode cX10_suspects 2 = .ok (.invokevirtual 155, 3) := by decide +kernel
theorem dX10_suspects_5 : decode cX10_suspects 5 = .ok (.astore 4, 2) := by decide +kernel
theorem dX10_suspects_7 : decode cX10_suspects 7 = .ok (.aload 4, 2) := by decide +kernel
theorem dX10_suspects_9 : decode cX10_suspects 9 = .ok (.ifnull 14, 3) := by decide +kernel
theorem dX10_suspects_12 : decode cX10_suspects 12 = .ok (.iload_n 2, 1) := by decide +kernel
theorem dX10_suspects_13 : decode cX10_suspects 13 = .ok (.invokestatic 310, 3) := by decide +kernel
theorem dX10_suspects_16 : decode cX10_suspects 16 = .ok (.ifCond .eq 7, 3) := by decide +kernel
theorem dX10_suspects_19 : decode cX10_suspects 19 = .ok (.iload_n 3, 1) := by decide +kernel
theorem dX10_suspects_20 : decode cX10_suspects 20 = .ok (.ifCond .ge 5, 3) := by decide +kernel
theorem dX10_suspects_23 : decode cX10_suspects 23 = .ok (.iconst (-1), 1) := by decide +kernel
theorem dX10_suspects_24 : decode cX10_suspects 24 = .ok (.ireturn, 1) := by decide +kernel
theorem dX10_suspects_25 : decode cX10_suspects 25 = .ok (.aload_n 0, 1) := by decide +kernel
theorem dX10_suspects_26 : decode cX10_suspects 26 = .ok (.invokevirtual 313, 3) := by decide +kernel
theorem dX10_suspects_29 : decode cX10_suspects 29 = .ok (.aload_n 0, 1) := by decide +kernel
theorem dX10_suspects_30 : decode cX10_suspects 30 = .ok (.aload 4, 2) := by decide +kernel
theorem dX10_suspects_32 : decode cX10_suspects 32 = .ok (.iload_n 2, 1) := by decide +kernel
theorem dX10_suspects_33 : decode cX10_suspects 33 = .ok (.invokevirtual 325, 3) := by decide +kernel
theorem dX10_suspects_36 : decode cX10_suspects 36 = .ok (.aload_n 0, 1) := by decide +kernel
theorem dX10_suspects_37 : decode cX10_suspects 37 = .ok (.getfield 74, 3) := by decide +kernel
theorem dX10_suspects_40 : decode cX10_suspects 40 = .ok (.aload 4, 2) := by decide +kernel
theorem dX10_suspects_42 : decode cX10_suspects 42 = .ok (.getfield 328, 3) := by decide +kernel
theorem dX10_suspects_45 : decode cX10_suspects 45 = .ok (.invokevirtual 331, 3) := by decide +kernel
theorem dX10_suspects_48 : decode cX10_suspects 48 = .ok (.ifCond .ne 5, 3) := by decide +kernel
theorem dX10_suspects_51 : decode cX10_suspects 51 = .ok (.iconst (-1), 1) := by decide +kernel
theorem dX10_suspects_52 : decode cX10_suspects 52 = .ok (.ireturn, 1) := by decide +kernel
theorem dX10_suspects_53 : decode cX10_suspects 53 = .ok (.iload_n 3, 1) := by decide +kernel
theorem dX10_suspects_54 : decode cX10_suspects 54 = .ok (.ifCond .ne 11, 3) := by decide +kernel
theorem dX10_suspects_57 : decode cX10_suspects 57 = .ok (.aload_n 0, 1) := by decide +kernel
theorem dX10_suspects_58 : decode cX10_suspects 58 = .ok (.getfield 74, 3) := by decide +kernel
theorem dX10_suspects_61 : decode cX10_suspects 61 = .ok (.getfield 333, 3) := by decide +kernel
theorem dX10_suspects_64 : decode cX10_suspects 64 = .ok (.ireturn, 1) := by decide +kernel
theorem dX10_suspects_65 : decode cX10_suspects 65 = .ok (.iload_n 3, 1) := by decide +kernel
theorem dX10_suspects_66 : decode cX10_suspects 66 = .ok (.iconst 1, 1) := by decide +kernel
theorem dX10_suspects_67 : decode cX10_suspects 67 = .ok (.if_icmp .ne 13, 3) := by decide +kernel
theorem dX10_suspects_70 : decode cX10_suspects 70 = .ok (.aload_n 0, 1) := by decide +kernel
theorem dX10_suspects_71 : decode cX10_suspects 71 = .ok (.getfield 74, 3) := by decide +kernel
theorem dX10_suspects_74 : decode cX10_suspects 74 = .ok (.getfield 336, 3) := by decide +kernel
theorem dX10_suspects_77 : decode cX10_suspects 77 = .ok (.iconst 1, 1) := by decide +kernel
theorem dX10_suspects_78 : decode cX10_suspects 78 = .ok (.isub, 1) := by decide +kernel
theorem dX10_suspects_79 : decode cX10_suspects 79 = .ok (.ireturn, 1) := by decide +kernel
theorem dX10_suspects_80 : decode cX10_suspects 80 = .ok (.aload_n 0, 1) := by decide +kernel
theorem dX10_suspects_81 : decode cX10_suspects 81 = .ok (.getfield 74, 3) := by decide +kernel
theorem dX10_suspects_84 : decode cX10_suspects 84 = .ok (.iload_n 3, 1) := by decide +kernel
theorem dX10_suspects_85 : decode cX10_suspects 85 = .ok (.iconst 2, 1) := by decide +kernel
theorem dX10_suspects_86 : decode cX10_suspects 86 = .ok (.isub, 1) := by decide +kernel
theorem dX10_suspects_87 : decode cX10_suspects 87 = .ok (.invokevirtual 339, 3) := by decide +kernel
theorem dX10_suspects_90 : decode cX10_suspects 90 = .ok (.ireturn, 1) := by decide +kernel
theorem dX10_count_0 : decode cX10_count 0 = .ok (.iload_n 1, 1) := by decide +kernel
theorem dX10_count_1 : decode cX10_count 1 = .ok (.tableswitch 110 0 7 #[47, 52, 57, 62, 70, 78, 83, 91], 47) := by decide +kernel
theorem dX10_count_48 : decode cX10_count 48 = .ok (.aload_n 0, 1) := by decide +kernel
theorem dX10_count_49 : decode cX10_count 49 = .ok (.getfield 169, 3) := by decide +kernel
theorem dX10_count_52 : decode cX10_count 52 = .ok (.ireturn, 1) := by decide +kernel
theorem dX10_count_53 : decode cX10_count 53 = .ok (.aload_n 0, 1) := by decide +kernel
theorem dX10_count_54 : decode cX10_count 54 = .ok (.getfield 90, 3) := by decide +kernel
theorem dX10_count_57 : decode cX10_count 57 = .ok (.ireturn, 1) := by decide +kernel
theorem dX10_count_58 : decode cX10_count 58 = .ok (.aload_n 0, 1) := by decide +kernel
theorem dX10_count_59 : decode cX10_count 59 = .ok (.getfield 130, 3) := by decide +kernel
theorem dX10_count_62 : decode cX10_count 62 = .ok (.ireturn, 1) := by decide +kernel
theorem dX10_count_63 : decode cX10_count 63 = .ok (.aload_n 0, 1) := by decide +kernel
theorem dX10_count_64 : decode cX10_count 64 = .ok (.getfield 42, 3) := by decide +kernel
theorem dX10_count_67 : decode cX10_count 67 = .ok (.getfield 295, 3) := by decide +kernel
theorem dX10_count_70 : decode cX10_count 70 = .ok (.ireturn, 1) := by decide +kernel
theorem dX10_count_71 : decode cX10_count 71 = .ok (.aload_n 0, 1) := by decide +kernel
theorem dX10_count_72 : decode cX10_count 72 = .ok (.getfield 49, 3) := by decide +kernel
theorem dX10_count_75 : decode cX10_count 75 = .ok (.getfield 306, 3) := by decide +kernel
theorem dX10_count_78 : decode cX10_count 78 = .ok (.ireturn, 1) := by decide +kernel
theorem dX10_count_79 : decode cX10_count 79 = .ok (.aload_n 0, 1) := by decide +kernel
theorem dX10_count_80 : decode cX10_count 80 = .ok (.getfield 244, 3) := by decide +kernel
theorem dX10_count_83 : decode cX10_count 83 = .ok (.ireturn, 1) := by decide +kernel
theorem dX10_count_84 : decode cX10_count 84 = .ok (.aload_n 0, 1) := by decide +kernel
theorem dX10_count_85 : decode cX10_count 85 = .ok (.getfield 10, 3) := by decide +kernel
theorem dX10_count_88 : decode cX10_count 88 = .ok (.getfield 78, 3) := by decide +kernel
theorem dX10_count_91 : decode cX10_count 91 = .ok (.ireturn, 1) := by decide +kernel
theorem dX10_count_92 : decode cX10_count 92 = .ok (.aload_n 0, 1) := by decide +kernel
theorem dX10_count_93 : decode cX10_count 93 = .ok (.getfield 162, 3) := by decide +kernel
theorem dX10_count_96 : decode cX10_count 96 = .ok (.ifnonnull 7, 3) := by decide +kernel
theorem dX10_count_99 : decode cX10_count 99 = .ok (.iconst (-1), 1) := by decide +kernel
theorem dX10_count_100 : decode cX10_count 100 = .ok (.goto 10, 3) := by decide +kernel
theorem dX10_count_103 : decode cX10_count 103 = .ok (.aload_n 0, 1) := by decide +kernel
theorem dX10_count_104 : decode cX10_count 104 = .ok (.getfield 162, 3) := by decide +kernel
theorem dX10_count_107 : decode cX10_count 107 = .ok (.getfield 302, 3) := by decide +kernel
theorem dX10_count_110 : decode cX10_count 110 = .ok (.ireturn, 1) := by decide +kernel
theorem dX10_count_111 : decode cX10_count 111 = .ok (.iconst (-1), 1) := by decide +kernel
theorem dX10_count_112 : decode cX10_count 112 = .ok (.ireturn, 1) := by decide +kernel
theorem dX10_ruleAt_0 : decode cX10_ruleAt 0 = .ok (.iload_n 1, 1) := by decide +kernel
theorem dX10_ruleAt_1 : decode cX10_ruleAt 1 = .ok (.ifCond .lt 20, 3) := by decide +kernel
theorem dX10_ruleAt_4 : decode cX10_ruleAt 4 = .ok (.iload_n 1, 1) := by decide +kernel
theorem dX10_ruleAt_5 : decode cX10_ruleAt 5 = .ok (.aload_n 0, 1) := by decide +kernel
theorem dX10_ruleAt_6 : decode cX10_ruleAt 6 = .ok (.getfield 90, 3) := by decide +kernel
theorem dX10_ruleAt_9 : decode cX10_ruleAt 9 = .ok (.if_icmp .ge 12, 3) := by decide +kernel
theorem dX10_ruleAt_12 : decode cX10_ruleAt 12 = .ok (.aload_n 0, 1) := by decide +kernel
theorem dX10_ruleAt_13 : decode cX10_ruleAt 13 = .ok (.getfield 25, 3) := by decide +kernel
theorem dX10_ruleAt_16 : decode cX10_ruleAt 16 = .ok (.iload_n 1, 1) := by decide +kernel
theorem dX10_ruleAt_17 : decode cX10_ruleAt 17 = .ok (.aaload, 1) := by decide +kernel
theorem dX10_ruleAt_18 : decode cX10_ruleAt 18 = .ok (.goto 4, 3) := by decide +kernel
theorem dX10_ruleAt_21 : decode cX10_ruleAt 21 = .ok (.aconst_null, 1) := by decide +kernel
theorem dX10_ruleAt_22 : decode cX10_ruleAt 22 = .ok (.areturn, 1) := by decide +kernel
theorem dX10_chartAt_0 : decode cX10_chartAt 0 = .ok (.iload_n 1, 1) := by decide +kernel
theorem dX10_chartAt_1 : decode cX10_chartAt 1 = .ok (.ifCond .lt 20, 3) := by decide +kernel
theorem dX10_chartAt_4 : decode cX10_chartAt 4 = .ok (.iload_n 1, 1) := by decide +kernel
theorem dX10_chartAt_5 : decode cX10_chartAt 5 = .ok (.aload_n 0, 1) := by decide +kernel
theorem dX10_chartAt_6 : decode cX10_chartAt 6 = .ok (.getfield 130, 3) := by decide +kernel
theorem dX10_chartAt_9 : decode cX10_chartAt 9 = .ok (.if_icmp .ge 12, 3) := by decide +kernel
theorem dX10_chartAt_12 : decode cX10_chartAt 12 = .ok (.aload_n 0, 1) := by decide +kernel
theorem dX10_chartAt_13 : decode cX10_chartAt 13 = .ok (.getfield 31, 3) := by decide +kernel
theorem dX10_chartAt_16 : decode cX10_chartAt 16 = .ok (.iload_n 1, 1) := by decide +kernel
theorem dX10_chartAt_17 : decode cX10_chartAt 17 = .ok (.aaload, 1) := by decide +kernel
theorem dX10_chartAt_18 : decode cX10_chartAt 18 = .ok (.goto 4, 3) := by decide +kernel
theorem dX10_chartAt_21 : decode cX10_chartAt 21 = .ok (.aconst_null, 1) := by decide +kernel
theorem dX10_chartAt_22 : decode cX10_chartAt 22 = .ok (.areturn, 1) := by decide +kernel
theorem dX10_isListed_0 : decode cX10_isListed 0 = .ok (.iconst 0, 1) := by decide +kernel
theorem dX10_isListed_1 : decode cX10_isListed 1 = .ok (.istore_n 2, 1) := by decide +kernel
theorem dX10_isListed_2 : decode cX10_isListed 2 = .ok (.iload_n 2, 1) := by decide +kernel
theorem dX10_isListed_3 : decode cX10_isListed 3 = .ok (.aload_n 0, 1) := by decide +kernel
theorem dX10_isListed_4 : decode cX10_isListed 4 = .ok (.getfield 244, 3) := by decide +kernel
theorem dX10_isListed_7 : decode cX10_isListed 7 = .ok (.if_icmp .ge 21, 3) := by decide +kernel
theorem dX10_isListed_10 : decode cX10_isListed 10 = .ok (.aload_n 0, 1) := by decide +kernel
theorem dX10_isListed_11 : decode cX10_isListed 11 = .ok (.getfield 35, 3) := by decide +kernel
theorem dX10_isListed_14 : decode cX10_isListed 14 = .ok (.iload_n 2, 1) := by decide +kernel
theorem dX10_isListed_15 : decode cX10_isListed 15 = .ok (.iaload, 1) := by decide +kernel
theorem dX10_isListed_16 : decode cX10_isListed 16 = .ok (.iload_n 1, 1) := by decide +kernel
theorem dX10_isListed_17 : decode cX10_isListed 17 = .ok (.if_icmp .ne 5, 3) := by decide +kernel
theorem dX10_isListed_20 : decode cX10_isListed 20 = .ok (.iconst 1, 1) := by decide +kernel
theorem dX10_isListed_21 : decode cX10_isListed 21 = .ok (.ireturn, 1) := by decide +kernel
theorem dX10_isListed_22 : decode cX10_isListed 22 = .ok (.iinc 2 1, 3) := by decide +kernel
theorem dX10_isListed_25 : decode cX10_isListed 25 = .ok (.goto (-23), 3) := by decide +kernel
theorem dX10_isListed_28 : decode cX10_isListed 28 = .ok (.iconst 0, 1) := by decide +kernel
theorem dX10_isListed_29 : decode cX10_isListed 29 = .ok (.ireturn, 1) := by decide +kernel
theorem dX10_layAsKnown_0 : decode cX10_layAsKnown 0 = .ok (.iconst 0, 1) := by decide +kernel
theorem dX10_layAsKnown_1 : decode cX10_layAsKnown 1 = .ok (.istore 4, 2) := by decide +kernel
theorem dX10_layAsKnown_3 : decode cX10_layAsKnown 3 = .ok (.iload 4, 2) := by decide +kernel
theorem dX10_layAsKnown_5 : decode cX10_layAsKnown 5 = .ok (.aload_n 1, 1) := by decide +kernel
theorem dX10_layAsKnown_6 : decode cX10_layAsKnown 6 = .ok (.getfield 328, 3) := by decide +kernel
theorem dX10_layAsKnown_9 : decode cX10_layAsKnown 9 = .ok (.if_icmp .ge 77, 3) := by decide +kernel
theorem dX10_layAsKnown_12 : decode cX10_layAsKnown 12 = .ok (.aload_n 1, 1) := by decide +kernel
theorem dX10_layAsKnown_13 : decode cX10_layAsKnown 13 = .ok (.getfield 342, 3) := by decide +kernel
theorem dX10_layAsKnown_16 : decode cX10_layAsKnown 16 = .ok (.iload 4, 2) := by decide +kernel
theorem dX10_layAsKnown_18 : decode cX10_layAsKnown 18 = .ok (.iaload, 1) := by decide +kernel
theorem dX10_layAsKnown_19 : decode cX10_layAsKnown 19 = .ok (.istore 5, 2) := by decide +kernel
theorem dX10_layAsKnown_21 : decode cX10_layAsKnown 21 = .ok (.aload_n 1, 1) := by decide +kernel
theorem dX10_layAsKnown_22 : decode cX10_layAsKnown 22 = .ok (.iload_n 2, 1) := by decide +kernel
theorem dX10_layAsKnown_23 : decode cX10_layAsKnown 23 = .ok (.iload 4, 2) := by decide +kernel
theorem dX10_layAsKnown_25 : decode cX10_layAsKnown 25 = .ok (.invokevirtual 345, 3) := by decide +kernel
theorem dX10_layAsKnown_28 : decode cX10_layAsKnown 28 = .ok (.istore 6, 2) := by decide +kernel
theorem dX10_layAsKnown_30 : decode cX10_layAsKnown 30 = .ok (.aload_n 0, 1) := by decide +kernel
theorem dX10_layAsKnown_31 : decode cX10_layAsKnown 31 = .ok (.getfield 42, 3) := by decide +kernel
theorem dX10_layAsKnown_34 : decode cX10_layAsKnown 34 = .ok (.iload_n 3, 1) := by decide +kernel
theorem dX10_layAsKnown_35 : decode cX10_layAsKnown 35 = .ok (.aload_n 1, 1) := by decide +kernel
theorem dX10_layAsKnown_36 : decode cX10_layAsKnown 36 = .ok (.getfield 302, 3) := by decide +kernel
theorem dX10_layAsKnown_39 : decode cX10_layAsKnown 39 = .ok (.iload 5, 2) := by decide +kernel
theorem dX10_layAsKnown_41 : decode cX10_layAsKnown 41 = .ok (.iload 6, 2) := by decide +kernel
theorem dX10_layAsKnown_43 : decode cX10_layAsKnown 43 = .ok (.invokevirtual 348, 3) := by decide +kernel
theorem dX10_layAsKnown_46 : decode cX10_layAsKnown 46 = .ok (.istore 7, 2) := by decide +kernel
theorem dX10_layAsKnown_48 : decode cX10_layAsKnown 48 = .ok (.aload_n 0, 1) := by decide +kernel
theorem dX10_layAsKnown_49 : decode cX10_layAsKnown 49 = .ok (.getfield 53, 3) := by decide +kernel
theorem dX10_layAsKnown_52 : decode cX10_layAsKnown 52 = .ok (.iload 4, 2) := by decide +kernel
theorem dX10_layAsKnown_54 : decode cX10_layAsKnown 54 = .ok (.iload 7, 2) := by decide +kernel
theorem dX10_layAsKnown_56 : decode cX10_layAsKnown 56 = .ok (.ldc 100, 2) := by decide +kernel
theorem dX10_layAsKnown_58 : decode cX10_layAsKnown 58 = .ok (.if_icmp .ne 18, 3) := by decide +kernel
theorem dX10_layAsKnown_61 : decode cX10_layAsKnown 61 = .ok (.aload_n 1, 1) := by decide +kernel
theorem dX10_layAsKnown_62 : decode cX10_layAsKnown 62 = .ok (.getfield 176, 3) := by decide +kernel
theorem dX10_layAsKnown_65 : decode cX10_layAsKnown 65 = .ok (.iload 5, 2) := by decide +kernel
theorem dX10_layAsKnown_67 : decode cX10_layAsKnown 67 = .ok (.iload 6, 2) := by decide +kernel
theorem dX10_layAsKnown_69 : decode cX10_layAsKnown 69 = .ok (.invokevirtual 352, 3) := by decide +kernel
theorem dX10_layAsKnown_72 : decode cX10_layAsKnown 72 = .ok (.i2l, 1) := by decide +kernel
theorem dX10_layAsKnown_73 : decode cX10_layAsKnown 73 = .ok (.goto 6, 3) := by decide +kernel
theorem dX10_layAsKnown_76 : decode cX10_layAsKnown 76 = .ok (.iload 7, 2) := by decide +kernel
theorem dX10_layAsKnown_78 : decode cX10_layAsKnown 78 = .ok (.i2l, 1) := by decide +kernel
theorem dX10_layAsKnown_79 : decode cX10_layAsKnown 79 = .ok (.lastore, 1) := by decide +kernel
theorem dX10_layAsKnown_80 : decode cX10_layAsKnown 80 = .ok (.iinc 4 1, 3) := by decide +kernel
theorem dX10_layAsKnown_83 : decode cX10_layAsKnown 83 = .ok (.goto (-80), 3) := by decide +kernel
theorem dX10_layAsKnown_86 : decode cX10_layAsKnown 86 = .ok (.return_, 1) := by decide +kernel
theorem dX10_layAsCut_0 : decode cX10_layAsCut 0 = .ok (.iconst 0, 1) := by decide +kernel
theorem dX10_layAsCut_1 : decode cX10_layAsCut 1 = .ok (.istore_n 3, 1) := by decide +kernel
theorem dX10_layAsCut_2 : decode cX10_layAsCut 2 = .ok (.iload_n 3, 1) := by decide +kernel
theorem dX10_layAsCut_3 : decode cX10_layAsCut 3 = .ok (.aload_n 1, 1) := by decide +kernel
theorem dX10_layAsCut_4 : decode cX10_layAsCut 4 = .ok (.getfield 328, 3) := by decide +kernel
theorem dX10_layAsCut_7 : decode cX10_layAsCut 7 = .ok (.if_icmp .ge 35, 3) := by decide +kernel
theorem dX10_layAsCut_10 : decode cX10_layAsCut 10 = .ok (.aload_n 0, 1) := by decide +kernel
theorem dX10_layAsCut_11 : decode cX10_layAsCut 11 = .ok (.getfield 53, 3) := by decide +kernel
theorem dX10_layAsCut_14 : decode cX10_layAsCut 14 = .ok (.iload_n 3, 1) := by decide +kernel
theorem dX10_layAsCut_15 : decode cX10_layAsCut 15 = .ok (.aload_n 1, 1) := by decide +kernel
theorem dX10_layAsCut_16 : decode cX10_layAsCut 16 = .ok (.getfield 176, 3) := by decide +kernel
theorem dX10_layAsCut_19 : decode cX10_layAsCut 19 = .ok (.aload_n 1, 1) := by decide +kernel
theorem dX10_layAsCut_20 : decode cX10_layAsCut 20 = .ok (.getfield 342, 3) := by decide +kernel
theorem dX10_layAsCut_23 : decode cX10_layAsCut 23 = .ok (.iload_n 3, 1) := by decide +kernel
theorem dX10_layAsCut_24 : decode cX10_layAsCut 24 = .ok (.iaload, 1) := by decide +kernel
theorem dX10_layAsCut_25 : decode cX10_layAsCut 25 = .ok (.aload_n 1, 1) := by decide +kernel
theorem dX10_layAsCut_26 : decode cX10_layAsCut 26 = .ok (.iload_n 2, 1) := by decide +kernel
theorem dX10_layAsCut_27 : decode cX10_layAsCut 27 = .ok (.iload_n 3, 1) := by decide +kernel
theorem dX10_layAsCut_28 : decode cX10_layAsCut 28 = .ok (.invokevirtual 345, 3) := by decide +kernel
theorem dX10_layAsCut_31 : decode cX10_layAsCut 31 = .ok (.invokevirtual 352, 3) := by decide +kernel
theorem dX10_layAsCut_34 : decode cX10_layAsCut 34 = .ok (.i2l, 1) := by decide +kernel
theorem dX10_layAsCut_35 : decode cX10_layAsCut 35 = .ok (.lastore, 1) := by decide +kernel
theorem dX10_layAsCut_36 : decode cX10_layAsCut 36 = .ok (.iinc 3 1, 3) := by decide +kernel
theorem dX10_layAsCut_39 : decode cX10_layAsCut 39 = .ok (.goto (-37), 3) := by decide +kernel
theorem dX10_layAsCut_42 : decode cX10_layAsCut 42 = .ok (.return_, 1) := by decide +kernel
theorem dX10_readAsKnown_0 : decode cX10_readAsKnown 0 = .ok (.aload_n 0, 1) := by decide +kernel
theorem dX10_readAsKnown_1 : decode cX10_readAsKnown 1 = .ok (.aload_n 1, 1) := by decide +kernel
theorem dX10_readAsKnown_2 : decode cX10_readAsKnown 2 = .ok (.iload_n 2, 1) := by decide +kernel
theorem dX10_readAsKnown_3 : decode cX10_readAsKnown 3 = .ok (.iload_n 3, 1) := by decide +kernel
theorem dX10_readAsKnown_4 : decode cX10_readAsKnown 4 = .ok (.invokevirtual 191, 3) := by decide +kernel
theorem dX10_readAsKnown_7 : decode cX10_readAsKnown 7 = .ok (.aload_n 0, 1) := by decide +kernel
theorem dX10_readAsKnown_8 : decode cX10_readAsKnown 8 = .ok (.getfield 60, 3) := by decide +kernel
theorem dX10_readAsKnown_11 : decode cX10_readAsKnown 11 = .ok (.aload_n 1, 1) := by decide +kernel
theorem dX10_readAsKnown_12 : decode cX10_readAsKnown 12 = .ok (.aload_n 0, 1) := by decide +kernel
theorem dX10_readAsKnown_13 : decode cX10_readAsKnown 13 = .ok (.getfield 53, 3) := by decide +kernel
theorem dX10_readAsKnown_16 : decode cX10_readAsKnown 16 = .ok (.aload_n 1, 1) := by decide +kernel
theorem dX10_readAsKnown_17 : decode cX10_readAsKnown 17 = .ok (.getfield 250, 3) := by decide +kernel
theorem dX10_readAsKnown_20 : decode cX10_readAsKnown 20 = .ok (.iconst 1, 1) := by decide +kernel
theorem dX10_readAsKnown_21 : decode cX10_readAsKnown 21 = .ok (.isub, 1) := by decide +kernel
theorem dX10_readAsKnown_22 : decode cX10_readAsKnown 22 = .ok (.invokevirtual 195, 3) := by decide +kernel
theorem dX10_readAsKnown_25 : decode cX10_readAsKnown 25 = .ok (.aload_n 0, 1) := by decide +kernel
theorem dX10_readAsKnown_26 : decode cX10_readAsKnown 26 = .ok (.getfield 60, 3) := by decide +kernel
theorem dX10_readAsKnown_29 : decode cX10_readAsKnown 29 = .ok (.getfield 209, 3) := by decide +kernel
theorem dX10_readAsKnown_32 : decode cX10_readAsKnown 32 = .ok (.aload_n 1, 1) := by decide +kernel
theorem dX10_readAsKnown_33 : decode cX10_readAsKnown 33 = .ok (.getfield 176, 3) := by decide +kernel
theorem dX10_readAsKnown_36 : decode cX10_readAsKnown 36 = .ok (.getfield 104, 3) := by decide +kernel
theorem dX10_readAsKnown_39 : decode cX10_readAsKnown 39 = .ok (.i2l, 1) := by decide +kernel
theorem dX10_readAsKnown_40 : decode cX10_readAsKnown 40 = .ok (.ladd, 1) := by decide +kernel
theorem dX10_readAsKnown_41 : decode cX10_readAsKnown 41 = .ok (.lreturn, 1) := by decide +kernel
theorem dX10_exactSum_0 : decode cX10_exactSum 0 = .ok (.aload_n 0, 1) := by decide +kernel
theorem dX10_exactSum_1 : decode cX10_exactSum 1 = .ok (.aload_n 1, 1) := by decide +kernel
theorem dX10_exactSum_2 : decode cX10_exactSum 2 = .ok (.aload_n 0, 1) := by decide +kernel
theorem dX10_exactSum_3 : decode cX10_exactSum 3 = .ok (.getfield 166, 3) := by decide +kernel
theorem dX10_exactSum_6 : decode cX10_exactSum 6 = .ok (.invokevirtual 215, 3) := by decide +kernel
theorem dX10_exactSum_9 : decode cX10_exactSum 9 = .ok (.aload_n 1, 1) := by decide +kernel
theorem dX10_exactSum_10 : decode cX10_exactSum 10 = .ok (.getfield 176, 3) := by decide +kernel
theorem dX10_exactSum_13 : decode cX10_exactSum 13 = .ok (.getfield 104, 3) := by decide +kernel
theorem dX10_exactSum_16 : decode cX10_exactSum 16 = .ok (.i2l, 1) := by decide +kernel
theorem dX10_exactSum_17 : decode cX10_exactSum 17 = .ok (.lstore_n 2, 1) := by decide +kernel
theorem dX10_exactSum_18 : decode cX10_exactSum 18 = .ok (.iconst 0, 1) := by decide +kernel
theorem dX10_exactSum_19 : decode cX10_exactSum 19 = .ok (.istore 4, 2) := by decide +kernel
theorem dX10_exactSum_21 : decode cX10_exactSum 21 = .ok (.iload 4, 2) := by decide +kernel
theorem dX10_exactSum_23 : decode cX10_exactSum 23 = .ok (.aload_n 1, 1) := by decide +kernel
theorem dX10_exactSum_24 : decode cX10_exactSum 24 = .ok (.getfield 328, 3) := by decide +kernel
theorem dX10_exactSum_27 : decode cX10_exactSum 27 = .ok (.if_icmp .ge 19, 3) := by decide +kernel
theorem dX10_exactSum_30 : decode cX10_exactSum 30 = .ok (.lload_n 2, 1) := by decide +kernel
theorem dX10_exactSum_31 : decode cX10_exactSum 31 = .ok (.aload_n 0, 1) := by decide +kernel
theorem dX10_exactSum_32 : decode cX10_exactSum 32 = .ok (.getfield 53, 3) := by decide +kernel
theorem dX10_exactSum_35 : decode cX10_exactSum 35 = .ok (.iload 4, 2) := by decide +kernel
theorem dX10_exactSum_37 : decode cX10_exactSum 37 = .ok (.laload, 1) := by decide +kernel
theorem dX10_exactSum_38 : decode cX10_exactSum 38 = .ok (.ladd, 1) := by decide +kernel
theorem dX10_exactSum_39 : decode cX10_exactSum 39 = .ok (.lstore_n 2, 1) := by decide +kernel
theorem dX10_exactSum_40 : decode cX10_exactSum 40 = .ok (.iinc 4 1, 3) := by decide +kernel
theorem dX10_exactSum_43 : decode cX10_exactSum 43 = .ok (.goto (-22), 3) := by decide +kernel
theorem dX10_exactSum_46 : decode cX10_exactSum 46 = .ok (.lload_n 2, 1) := by decide +kernel
theorem dX10_exactSum_47 : decode cX10_exactSum 47 = .ok (.l2i, 1) := by decide +kernel
theorem dX10_exactSum_48 : decode cX10_exactSum 48 = .ok (.ireturn, 1) := by decide +kernel
theorem dX10_refreshDues_0 : decode cX10_refreshDues 0 = .ok (.aload_n 0, 1) := by decide +kernel
theorem dX10_refreshDues_1 : decode cX10_refreshDues 1 = .ok (.getfield 49, 3) := by decide +kernel
theorem dX10_refreshDues_4 : decode cX10_refreshDues 4 = .ok (.getfield 355, 3) := by decide +kernel
theorem dX10_refreshDues_7 : decode cX10_refreshDues 7 = .ok (.istore_n 1, 1) := by decide +kernel
theorem dX10_refreshDues_8 : decode cX10_refreshDues 8 = .ok (.iload_n 1, 1) := by decide +kernel
theorem dX10_refreshDues_9 : decode cX10_refreshDues 9 = .ok (.aload_n 0, 1) := by decide +kernel
theorem dX10_refreshDues_10 : decode cX10_refreshDues 10 = .ok (.getfield 49, 3) := by decide +kernel
theorem dX10_refreshDues_13 : decode cX10_refreshDues 13 = .ok (.getfield 306, 3) := by decide +kernel
theorem dX10_refreshDues_16 : decode cX10_refreshDues 16 = .ok (.if_icmp .ge 70, 3) := by decide +kernel
theorem dX10_refreshDues_19 : decode cX10_refreshDues 19 = .ok (.aload_n 0, 1) := by decide +kernel
theorem dX10_refreshDues_20 : decode cX10_refreshDues 20 = .ok (.aload_n 0, 1) := by decide +kernel
theorem dX10_refreshDues_21 : decode cX10_refreshDues 21 = .ok (.getfield 49, 3) := by decide +kernel
theorem dX10_refreshDues_24 : decode cX10_refreshDues 24 = .ok (.getfield 358, 3) := by decide +kernel
theorem dX10_refreshDues_27 : decode cX10_refreshDues 27 = .ok (.iload_n 1, 1) := by decide +kernel
theorem dX10_refreshDues_28 : decode cX10_refreshDues 28 = .ok (.iaload, 1) := by decide +kernel
theorem dX10_refreshDues_29 : decode cX10_refreshDues 29 = .ok (.invokevirtual 155, 3) := by decide +kernel
theorem dX10_refreshDues_32 : decode cX10_refreshDues 32 = .ok (.astore_n 2, 1) := by decide +kernel
theorem dX10_refreshDues_33 : decode cX10_refreshDues 33 = .ok (.aload_n 0, 1) := by decide +kernel
theorem dX10_refreshDues_34 : decode cX10_refreshDues 34 = .ok (.getfield 49, 3) := by decide +kernel
theorem dX10_refreshDues_37 : decode cX10_refreshDues 37 = .ok (.getfield 316, 3) := by decide +kernel
theorem dX10_refreshDues_40 : decode cX10_refreshDues 40 = .ok (.iload_n 1, 1) := by decide +kernel
theorem dX10_refreshDues_41 : decode cX10_refreshDues 41 = .ok (.aload_n 2, 1) := by decide +kernel
theorem dX10_refreshDues_42 : decode cX10_refreshDues 42 = .ok (.ifnonnull 7, 3) := by decide +kernel
theorem dX10_refreshDues_45 : decode cX10_refreshDues 45 = .ok (.iconst (-1), 1) := by decide +kernel
theorem dX10_refreshDues_46 : decode cX10_refreshDues 46 = .ok (.goto 33, 3) := by decide +kernel
theorem dX10_refreshDues_49 : decode cX10_refreshDues 49 = .ok (.aload_n 2, 1) := by decide +kernel
theorem dX10_refreshDues_50 : decode cX10_refreshDues 50 = .ok (.getfield 176, 3) := by decide +kernel
theorem dX10_refreshDues_53 : decode cX10_refreshDues 53 = .ok (.aload_n 0, 1) := by decide +kernel
theorem dX10_refreshDues_54 : decode cX10_refreshDues 54 = .ok (.aload_n 2, 1) := by decide +kernel
theorem dX10_refreshDues_55 : decode cX10_refreshDues 55 = .ok (.aload_n 0, 1) := by decide +kernel
theorem dX10_refreshDues_56 : decode cX10_refreshDues 56 = .ok (.getfield 49, 3) := by decide +kernel
theorem dX10_refreshDues_59 : decode cX10_refreshDues 59 = .ok (.getfield 360, 3) := by decide +kernel
theorem dX10_refreshDues_62 : decode cX10_refreshDues 62 = .ok (.iload_n 1, 1) := by decide +kernel
theorem dX10_refreshDues_63 : decode cX10_refreshDues 63 = .ok (.iaload, 1) := by decide +kernel
theorem dX10_refreshDues_64 : decode cX10_refreshDues 64 = .ok (.aload_n 0, 1) := by decide +kernel
theorem dX10_refreshDues_65 : decode cX10_refreshDues 65 = .ok (.getfield 49, 3) := by decide +kernel
theorem dX10_refreshDues_68 : decode cX10_refreshDues 68 = .ok (.getfield 363, 3) := by decide +kernel
theorem dX10_refreshDues_71 : decode cX10_refreshDues 71 = .ok (.iload_n 1, 1) := by decide +kernel
theorem dX10_refreshDues_72 : decode cX10_refreshDues 72 = .ok (.iaload, 1) := by decide +kernel
theorem dX10_refreshDues_73 : decode cX10_refreshDues 73 = .ok (.invokevirtual 172, 3) := by decide +kernel
theorem dX10_refreshDues_76 : decode cX10_refreshDues 76 = .ok (.invokevirtual 180, 3) := by decide +kernel
theorem dX10_refreshDues_79 : decode cX10_refreshDues 79 = .ok (.iastore, 1) := by decide +kernel
theorem dX10_refreshDues_80 : decode cX10_refreshDues 80 = .ok (.iinc 1 1, 3) := by decide +kernel
theorem dX10_refreshDues_83 : decode cX10_refreshDues 83 = .ok (.goto (-75), 3) := by decide +kernel
theorem dX10_refreshDues_86 : decode cX10_refreshDues 86 = .ok (.aload_n 0, 1) := by decide +kernel
theorem dX10_refreshDues_87 : decode cX10_refreshDues 87 = .ok (.getfield 49, 3) := by decide +kernel
theorem dX10_refreshDues_90 : decode cX10_refreshDues 90 = .ok (.aload_n 0, 1) := by decide +kernel
theorem dX10_refreshDues_91 : decode cX10_refreshDues 91 = .ok (.getfield 49, 3) := by decide +kernel
theorem dX10_refreshDues_94 : decode cX10_refreshDues 94 = .ok (.getfield 306, 3) := by decide +kernel
theorem dX10_refreshDues_97 : decode cX10_refreshDues 97 = .ok (.putfield 355, 3) := by decide +kernel
theorem dX10_refreshDues_100 : decode cX10_refreshDues 100 = .ok (.return_, 1) := by decide +kernel
theorem dX10_sortReports_0 : decode cX10_sortReports 0 = .ok (.aload_n 0, 1) := by decide +kernel
theorem dX10_sortReports_1 : decode cX10_sortReports 1 = .ok (.getfield 74, 3) := by decide +kernel
theorem dX10_sortReports_4 : decode cX10_sortReports 4 = .ok (.invokevirtual 366, 3) := by decide +kernel
theorem dX10_sortReports_7 : decode cX10_sortReports 7 = .ok (.iconst 0, 1) := by decide +kernel
theorem dX10_sortReports_8 : decode cX10_sortReports 8 = .ok (.istore_n 3, 1) := by decide +kernel
theorem dX10_sortReports_9 : decode cX10_sortReports 9 = .ok (.iload_n 3, 1) := by decide +kernel
theorem dX10_sortReports_10 : decode cX10_sortReports 10 = .ok (.aload_n 0, 1) := by decide +kernel
theorem dX10_sortReports_11 : decode cX10_sortReports 11 = .ok (.getfield 49, 3) := by decide +kernel
theorem dX10_sortReports_14 : decode cX10_sortReports 14 = .ok (.getfield 306, 3) := by decide +kernel
theorem dX10_sortReports_17 : decode cX10_sortReports 17 = .ok (.if_icmp .ge 64, 3) := by decide +kernel
theorem dX10_sortReports_20 : decode cX10_sortReports 20 = .ok (.aload_n 0, 1) := by decide +kernel
theorem dX10_sortReports_21 : decode cX10_sortReports 21 = .ok (.getfield 49, 3) := by decide +kernel
theorem dX10_sortReports_24 : decode cX10_sortReports 24 = .ok (.getfield 358, 3) := by decide +kernel
theorem dX10_sortReports_27 : decode cX10_sortReports 27 = .ok (.iload_n 3, 1) := by decide +kernel
theorem dX10_sortReports_28 : decode cX10_sortReports 28 = .ok (.iaload, 1) := by decide +kernel
theorem dX10_sortReports_29 : decode cX10_sortReports 29 = .ok (.aload_n 1, 1) := by decide +kernel
theorem dX10_sortReports_30 : decode cX10_sortReports 30 = .ok (.getfield 302, 3) := by decide +kernel
theorem dX10_sortReports_33 : decode cX10_sortReports 33 = .ok (.if_icmp .ne 42, 3) := by decide +kernel
theorem dX10_sortReports_36 : decode cX10_sortReports 36 = .ok (.aload_n 0, 1) := by decide +kernel
theorem dX10_sortReports_37 : decode cX10_sortReports 37 = .ok (.getfield 49, 3) := by decide +kernel
theorem dX10_sortReports_40 : decode cX10_sortReports 40 = .ok (.getfield 316, 3) := by decide +kernel
theorem dX10_sortReports_43 : decode cX10_sortReports 43 = .ok (.iload_n 3, 1) := by decide +kernel
theorem dX10_sortReports_44 : decode cX10_sortReports 44 = .ok (.iaload, 1) := by decide +kernel
theorem dX10_sortReports_45 : decode cX10_sortReports 45 = .ok (.iconst (-1), 1) := by decide +kernel
theorem dX10_sortReports_46 : decode cX10_sortReports 46 = .ok (.if_icmp .eq 29, 3) := by decide +kernel
theorem dX10_sortReports_49 : decode cX10_sortReports 49 = .ok (.aload_n 0, 1) := by decide +kernel
theorem dX10_sortReports_50 : decode cX10_sortReports 50 = .ok (.getfield 74, 3) := by decide +kernel
theorem dX10_sortReports_53 : decode cX10_sortReports 53 = .ok (.aload_n 1, 1) := by decide +kernel
theorem dX10_sortReports_54 : decode cX10_sortReports 54 = .ok (.aload_n 0, 1) := by decide +kernel
theorem dX10_sortReports_55 : decode cX10_sortReports 55 = .ok (.getfield 49, 3) := by decide +kernel
theorem dX10_sortReports_58 : decode cX10_sortReports 58 = .ok (.getfield 360, 3) := by decide +kernel
theorem dX10_sortReports_61 : decode cX10_sortReports 61 = .ok (.iload_n 3, 1) := by decide +kernel
theorem dX10_sortReports_62 : decode cX10_sortReports 62 = .ok (.iaload, 1) := by decide +kernel
theorem dX10_sortReports_63 : decode cX10_sortReports 63 = .ok (.aload_n 0, 1) := by decide +kernel
theorem dX10_sortReports_64 : decode cX10_sortReports 64 = .ok (.getfield 49, 3) := by decide +kernel
theorem dX10_sortReports_67 : decode cX10_sortReports 67 = .ok (.iload_n 3, 1) := by decide +kernel
theorem dX10_sortReports_68 : decode cX10_sortReports 68 = .ok (.iload_n 2, 1) := by decide +kernel
theorem dX10_sortReports_69 : decode cX10_sortReports 69 = .ok (.invokevirtual 319, 3) := by decide +kernel
theorem dX10_sortReports_72 : decode cX10_sortReports 72 = .ok (.invokevirtual 369, 3) := by decide +kernel
theorem dX10_sortReports_75 : decode cX10_sortReports 75 = .ok (.iinc 3 1, 3) := by decide +kernel
theorem dX10_sortReports_78 : decode cX10_sortReports 78 = .ok (.goto (-69), 3) := by decide +kernel
theorem dX10_sortReports_81 : decode cX10_sortReports 81 = .ok (.return_, 1) := by decide +kernel
theorem dX10_areModuli_0 : decode cX10_areModuli 0 = .ok (.iload_n 1, 1) := by decide +kernel
theorem dX10_areModuli_1 : decode cX10_areModuli 1 = .ok (.ifCond .ne 13, 3) := by decide +kernel
theorem dX10_areModuli_4 : decode cX10_areModuli 4 = .ok (.iload_n 0, 1) := by decide +kernel
theorem dX10_areModuli_5 : decode cX10_areModuli 5 = .ok (.ifCond .ne 7, 3) := by decide +kernel
theorem dX10_areModuli_8 : decode cX10_areModuli 8 = .ok (.iconst 1, 1) := by decide +kernel
theorem dX10_areModuli_9 : decode cX10_areModuli 9 = .ok (.goto 4, 3) := by decide +kernel
theorem dX10_areModuli_12 : decode cX10_areModuli 12 = .ok (.iconst 0, 1) := by decide +kernel
theorem dX10_areModuli_13 : decode cX10_areModuli 13 = .ok (.ireturn, 1) := by decide +kernel
theorem dX10_areModuli_14 : decode cX10_areModuli 14 = .ok (.iload_n 0, 1) := by decide +kernel
theorem dX10_areModuli_15 : decode cX10_areModuli 15 = .ok (.bipush 100, 2) := by decide +kernel
theorem dX10_areModuli_17 : decode cX10_areModuli 17 = .ok (.idiv, 1) := by decide +kernel
theorem dX10_areModuli_18 : decode cX10_areModuli 18 = .ok (.istore_n 2, 1) := by decide +kernel
theorem dX10_areModuli_19 : decode cX10_areModuli 19 = .ok (.iload_n 0, 1) := by decide +kernel
theorem dX10_areModuli_20 : decode cX10_areModuli 20 = .ok (.bipush 100, 2) := by decide +kernel
theorem dX10_areModuli_22 : decode cX10_areModuli 22 = .ok (.irem, 1) := by decide +kernel
theorem dX10_areModuli_23 : decode cX10_areModuli 23 = .ok (.istore_n 3, 1) := by decide +kernel
theorem dX10_areModuli_24 : decode cX10_areModuli 24 = .ok (.iload_n 2, 1) := by decide +kernel
theorem dX10_areModuli_25 : decode cX10_areModuli 25 = .ok (.iconst 1, 1) := by decide +kernel
theorem dX10_areModuli_26 : decode cX10_areModuli 26 = .ok (.if_icmp .lt 24, 3) := by decide +kernel
theorem dX10_areModuli_29 : decode cX10_areModuli 29 = .ok (.iload_n 2, 1) := by decide +kernel
theorem dX10_areModuli_30 : decode cX10_areModuli 30 = .ok (.bipush 50, 2) := by decide +kernel
theorem dX10_areModuli_32 : decode cX10_areModuli 32 = .ok (.if_icmp .gt 18, 3) := by decide +kernel
theorem dX10_areModuli_35 : decode cX10_areModuli 35 = .ok (.iload_n 3, 1) := by decide +kernel
theorem dX10_areModuli_36 : decode cX10_areModuli 36 = .ok (.iconst 1, 1) := by decide +kernel
theorem dX10_areModuli_37 : decode cX10_areModuli 37 = .ok (.if_icmp .lt 13, 3) := by decide +kernel
theorem dX10_areModuli_40 : decode cX10_areModuli 40 = .ok (.iload_n 3, 1) := by decide +kernel
theorem dX10_areModuli_41 : decode cX10_areModuli 41 = .ok (.bipush 50, 2) := by decide +kernel
theorem dX10_areModuli_43 : decode cX10_areModuli 43 = .ok (.if_icmp .gt 7, 3) := by decide +kernel
theorem dX10_areModuli_46 : decode cX10_areModuli 46 = .ok (.iconst 1, 1) := by decide +kernel
theorem dX10_areModuli_47 : decode cX10_areModuli 47 = .ok (.goto 4, 3) := by decide +kernel
theorem dX10_areModuli_50 : decode cX10_areModuli 50 = .ok (.iconst 0, 1) := by decide +kernel
theorem dX10_areModuli_51 : decode cX10_areModuli 51 = .ok (.ireturn, 1) := by decide +kernel
theorem dX10_isEye_0 : decode cX10_isEye 0 = .ok (.iload_n 0, 1) := by decide +kernel
theorem dX10_isEye_1 : decode cX10_isEye 1 = .ok (.ifCond .lt 13, 3) := by decide +kernel
theorem dX10_isEye_4 : decode cX10_isEye 4 = .ok (.iload_n 0, 1) := by decide +kernel
theorem dX10_isEye_5 : decode cX10_isEye 5 = .ok (.bipush 50, 2) := by decide +kernel
theorem dX10_isEye_7 : decode cX10_isEye 7 = .ok (.if_icmp .gt 7, 3) := by decide +kernel
theorem dX10_isEye_10 : decode cX10_isEye 10 = .ok (.iconst 1, 1) := by decide +kernel
theorem dX10_isEye_11 : decode cX10_isEye 11 = .ok (.goto 4, 3) := by decide +kernel
theorem dX10_isEye_14 : decode cX10_isEye 14 = .ok (.iconst 0, 1) := by decide +kernel
theorem dX10_isEye_15 : decode cX10_isEye 15 = .ok (.ireturn, 1) := by decide +kernel
theorem dX10_isSwelling_0 : decode cX10_isSwelling 0 = .ok (.iload_n 0, 1) := by decide +kernel
theorem dX10_isSwelling_1 : decode cX10_isSwelling 1 = .ok (.bipush (-50), 2) := by decide +kernel
theorem dX10_isSwelling_3 : decode cX10_isSwelling 3 = .ok (.if_icmp .lt 13, 3) := by decide +kernel
theorem dX10_isSwelling_6 : decode cX10_isSwelling 6 = .ok (.iload_n 0, 1) := by decide +kernel
theorem dX10_isSwelling_7 : decode cX10_isSwelling 7 = .ok (.bipush 50, 2) := by decide +kernel
theorem dX10_isSwelling_9 : decode cX10_isSwelling 9 = .ok (.if_icmp .gt 7, 3) := by decide +kernel
theorem dX10_isSwelling_12 : decode cX10_isSwelling 12 = .ok (.iconst 1, 1) := by decide +kernel
theorem dX10_isSwelling_13 : decode cX10_isSwelling 13 = .ok (.goto 4, 3) := by decide +kernel
theorem dX10_isSwelling_16 : decode cX10_isSwelling 16 = .ok (.iconst 0, 1) := by decide +kernel
theorem dX10_isSwelling_17 : decode cX10_isSwelling 17 = .ok (.ireturn, 1) := by decide +kernel
theorem dX10_isReader_0 : decode cX10_isReader 0 = .ok (.iload_n 0, 1) := by decide +kernel
theorem dX10_isReader_1 : decode cX10_isReader 1 = .ok (.ifCond .lt 13, 3) := by decide +kernel
theorem dX10_isReader_4 : decode cX10_isReader 4 = .ok (.iload_n 0, 1) := by decide +kernel
theorem dX10_isReader_5 : decode cX10_isReader 5 = .ok (.bipush 7, 2) := by decide +kernel
theorem dX10_isReader_7 : decode cX10_isReader 7 = .ok (.if_icmp .gt 7, 3) := by decide +kernel
theorem dX10_isReader_10 : decode cX10_isReader 10 = .ok (.iconst 1, 1) := by decide +kernel
theorem dX10_isReader_11 : decode cX10_isReader 11 = .ok (.goto 4, 3) := by decide +kernel
theorem dX10_isReader_14 : decode cX10_isReader 14 = .ok (.iconst 0, 1) := by decide +kernel
theorem dX10_isReader_15 : decode cX10_isReader 15 = .ok (.ireturn, 1) := by decide +kernel
theorem dX10_isBound_0 : decode cX10_isBound 0 = .ok (.iload_n 0, 1) := by decide +kernel
theorem dX10_isBound_1 : decode cX10_isBound 1 = .ok (.ifCond .lt 13, 3) := by decide +kernel
theorem dX10_isBound_4 : decode cX10_isBound 4 = .ok (.iload_n 0, 1) := by decide +kernel
theorem dX10_isBound_5 : decode cX10_isBound 5 = .ok (.bipush 20, 2) := by decide +kernel
theorem dX10_isBound_7 : decode cX10_isBound 7 = .ok (.if_icmp .gt 7, 3) := by decide +kernel
theorem dX10_isBound_10 : decode cX10_isBound 10 = .ok (.iconst 1, 1) := by decide +kernel
theorem dX10_isBound_11 : decode cX10_isBound 11 = .ok (.goto 4, 3) := by decide +kernel
theorem dX10_isBound_14 : decode cX10_isBound 14 = .ok (.iconst 0, 1) := by decide +kernel
theorem dX10_isBound_15 : decode cX10_isBound 15 = .ok (.ireturn, 1) := by decide +kernel
theorem dX10_nearest_0 : decode cX10_nearest 0 = .ok (.lload_n 2, 1) := by decide +kernel
theorem dX10_nearest_1 : decode cX10_nearest 1 = .ok (.lconst 0, 1) := by decide +kernel
theorem dX10_nearest_2 : decode cX10_nearest 2 = .ok (.lcmp, 1) := by decide +kernel
theorem dX10_nearest_3 : decode cX10_nearest 3 = .ok (.ifCond .gt 5, 3) := by decide +kernel
theorem dX10_nearest_6 : decode cX10_nearest 6 = .ok (.lconst 0, 1) := by decide +kernel
theorem dX10_nearest_7 : decode cX10_nearest 7 = .ok (.lreturn, 1) := by decide +kernel
theorem dX10_nearest_8 : decode cX10_nearest 8 = .ok (.ldc2_w 372, 3) := by decide +kernel
theorem dX10_nearest_11 : decode cX10_nearest 11 = .ok (.lload_n 0, 1) := by decide +kernel
theorem dX10_nearest_12 : decode cX10_nearest 12 = .ok (.lmul, 1) := by decide +kernel
theorem dX10_nearest_13 : decode cX10_nearest 13 = .ok (.lload_n 2, 1) := by decide +kernel
theorem dX10_nearest_14 : decode cX10_nearest 14 = .ok (.ladd, 1) := by decide +kernel
theorem dX10_nearest_15 : decode cX10_nearest 15 = .ok (.ldc2_w 372, 3) := by decide +kernel
theorem dX10_nearest_18 : decode cX10_nearest 18 = .ok (.lload_n 2, 1) := by decide +kernel
theorem dX10_nearest_19 : decode cX10_nearest 19 = .ok (.lmul, 1) := by decide +kernel
theorem dX10_nearest_20 : decode cX10_nearest 20 = .ok (.invokestatic 374, 3) := by decide +kernel
theorem dX10_nearest_23 : decode cX10_nearest 23 = .ok (.lreturn, 1) := by decide +kernel
end
section
theorem dX11_init_0 : decode cX11_init 0 = .ok (.aload_n 0, 1) := by decide +kernel
theorem dX11_init_1 : decode cX11_init 1 = .ok (.invokespecial 1, 3) := by decide +kernel
theorem dX11_init_4 : decode cX11_init 4 = .ok (.aload_n 0, 1) := by decide +kernel
theorem dX11_init_5 : decode cX11_init 5 = .ok (.bipush 120, 2) := by decide +kernel
theorem dX11_init_7 : decode cX11_init 7 = .ok (.newarray .byte, 2) := by decide +kernel
theorem dX11_init_9 : decode cX11_init 9 = .ok (.putfield 9, 3) := by decide +kernel
theorem dX11_init_12 : decode cX11_init 12 = .ok (.aload_n 0, 1) := by decide +kernel
theorem dX11_init_13 : decode cX11_init 13 = .ok (.iconst 5, 1) := by decide +kernel
theorem dX11_init_14 : decode cX11_init 14 = .ok (.newarray .int, 2) := by decide +kernel
theorem dX11_init_16 : decode cX11_init 16 = .ok (.putfield 13, 3) := by decide +kernel
theorem dX11_init_19 : decode cX11_init 19 = .ok (.aload_n 0, 1) := by decide +kernel
theorem dX11_init_20 : decode cX11_init 20 = .ok (.iconst 5, 1) := by decide +kernel
theorem dX11_init_21 : decode cX11_init 21 = .ok (.newarray .int, 2) := by decide +kernel
theorem dX11_init_23 : decode cX11_init 23 = .ok (.putfield 17, 3) := by decide +kernel
theorem dX11_init_26 : decode cX11_init 26 = .ok (.aload_n 0, 1) := by decide +kernel
theorem dX11_init_27 : decode cX11_init 27 = .ok (.iconst 5, 1) := by decide +kernel
theorem dX11_init_28 : decode cX11_init 28 = .ok (.newarray .int, 2) := by decide +kernel
theorem dX11_init_30 : decode cX11_init 30 = .ok (.putfield 20, 3) := by decide +kernel
theorem dX11_init_33 : decode cX11_init 33 = .ok (.aload_n 0, 1) := by decide +kernel
theorem dX11_init_34 : decode cX11_init 34 = .ok (.bipush 6, 2) := by decide +kernel
theorem dX11_init_36 : decode cX11_init 36 = .ok (.newarray .int, 2) := by decide +kernel
theorem dX11_init_38 : decode cX11_init 38 = .ok (.putfield 23, 3) := by decide +kernel
theorem dX11_init_41 : decode cX11_init 41 = .ok (.aload_n 0, 1) := by decide +kernel
theorem dX11_init_42 : decode cX11_init 42 = .ok (.bipush 6, 2) := by decide +kernel
theorem dX11_init_44 : decode cX11_init 44 = .ok (.newarray .int, 2) := by decide +kernel
theorem dX11_init_46 : decode cX11_init 46 = .ok (.putfield 26, 3) := by decide +kernel
theorem dX11_init_49 : decode cX11_init 49 = .ok (.aload_n 0, 1) := by decide +kernel
theorem dX11_init_50 : decode cX11_init 50 = .ok (.bipush 30, 2) := by decide +kernel
theorem dX11_init_52 : decode cX11_init 52 = .ok (.newarray .int, 2) := by decide +kernel
theorem dX11_init_54 : decode cX11_init 54 = .ok (.putfield 29, 3) := by decide +kernel
theorem dX11_init_57 : decode cX11_init 57 = .ok (.aload_n 0, 1) := by decide +kernel
theorem dX11_init_58 : decode cX11_init 58 = .ok (.bipush 30, 2) := by decide +kernel
theorem dX11_init_60 : decode cX11_init 60 = .ok (.newarray .int, 2) := by decide +kernel
theorem dX11_init_62 : decode cX11_init 62 = .ok (.putfield 32, 3) := by decide +kernel
theorem dX11_init_65 : decode cX11_init 65 = .ok (.aload_n 0, 1) := by decide +kernel
theorem dX11_init_66 : decode cX11_init 66 = .ok (.bipush 30, 2) := by decide +kernel
theorem dX11_init_68 : decode cX11_init 68 = .ok (.newarray .int, 2) := by decide +kernel
theorem dX11_init_70 : decode cX11_init 70 = .ok (.putfield 35, 3) := by decide +kernel
theorem dX11_init_73 : decode cX11_init 73 = .ok (.aload_n 0, 1) := by decide +kernel
theorem dX11_init_74 : decode cX11_init 74 = .ok (.sipush 1200, 3) := by decide +kernel
theorem dX11_init_77 : decode cX11_init 77 = .ok (.newarray .int, 2) := by decide +kernel
theorem dX11_init_79 : decode cX11_init 79 = .ok (.putfield 38, 3) := by decide +kernel
theorem dX11_init_82 : decode cX11_init 82 = .ok (.aload_n 0, 1) := by decide +kernel
theorem dX11_init_83 : decode cX11_init 83 = .ok (.bipush 6, 2) := by decide +kernel
theorem dX11_init_85 : decode cX11_init 85 = .ok (.newarray .int, 2) := by decide +kernel
theorem dX11_init_87 : decode cX11_init 87 = .ok (.putfield 41, 3) := by decide +kernel
theorem dX11_init_90 : decode cX11_init 90 = .ok (.aload_n 0, 1) := by decide +kernel
theorem dX11_init_91 : decode cX11_init 91 = .ok (.bipush 24, 2) := by decide +kernel
theorem dX11_init_93 : decode cX11_init 93 = .ok (.newarray .int, 2) := by decide +kernel
theorem dX11_init_95 : decode cX11_init 95 = .ok (.putfield 44, 3) := by decide +kernel
theorem dX11_init_98 : decode cX11_init 98 = .ok (.aload_n 0, 1) := by decide +kernel
theorem dX11_init_99 : decode cX11_init 99 = .ok (.bipush 6, 2) := by decide +kernel
theorem dX11_init_101 : decode cX11_init 101 = .ok (.newarray .int, 2) := by decide +kernel
theorem dX11_init_103 : decode cX11_init 103 = .ok (.putfield 47, 3) := by decide +kernel
theorem dX11_init_106 : decode cX11_init 106 = .ok (.aload_n 0, 1) := by decide +kernel
theorem dX11_init_107 : decode cX11_init 107 = .ok (.bipush 18, 2) := by decide +kernel
theorem dX11_init_109 : decode cX11_init 109 = .ok (.newarray .int, 2) := by decide +kernel
theorem dX11_init_111 : decode cX11_init 111 = .ok (.putfield 50, 3) := by decide +kernel
theorem dX11_init_114 : decode cX11_init 114 = .ok (.aload_n 0, 1) := by decide +kernel
theorem dX11_init_115 : decode cX11_init 115 = .ok (.bipush 18, 2) := by decide +kernel
theorem dX11_init_117 : decode cX11_init 117 = .ok (.newarray .int, 2) := by decide +kernel
theorem dX11_init_119 : decode cX11_init 119 = .ok (.putfield 53, 3) := by decide +kernel
theorem dX11_init_122 : decode cX11_init 122 = .ok (.aload_n 0, 1) := by decide +kernel
theorem dX11_init_123 : decode cX11_init 123 = .ok (.bipush 6, 2) := by decide +kernel
theorem dX11_init_125 : decode cX11_init 125 = .ok (.newarray .int, 2) := by decide +kernel
theorem dX11_init_127 : decode cX11_init 127 = .ok (.putfield 56, 3) := by decide +kernel
theorem dX11_init_130 : decode cX11_init 130 = .ok (.aload_n 0, 1) := by decide +kernel
theorem dX11_init_131 : decode cX11_init 131 = .ok (.bipush 6, 2) := by decide +kernel
theorem dX11_init_133 : decode cX11_init 133 = .ok (.newarray .int, 2) := by decide +kernel
theorem dX11_init_135 : decode cX11_init 135 = .ok (.putfield 59, 3) := by decide +kernel
theorem dX11_init_138 : decode cX11_init 138 = .ok (.aload_n 0, 1) := by decide +kernel
theorem dX11_init_139 : decode cX11_init 139 = .ok (.bipush 6, 2) := by decide +kernel
theorem dX11_init_141 : decode cX11_init 141 = .ok (.newarray .int, 2) := by decide +kernel
theorem dX11_init_143 : decode cX11_init 143 = .ok (.putfield 62, 3) := by decide +kernel
theorem dX11_init_146 : decode cX11_init 146 = .ok (.aload_n 0, 1) := by decide +kernel
theorem dX11_init_147 : decode cX11_init 147 = .ok (.iconst (-1), 1) := by decide +kernel
theorem dX11_init_148 : decode cX11_init 148 = .ok (.putfield 65, 3) := by decide +kernel
theorem dX11_init_151 : decode cX11_init 151 = .ok (.aload_n 0, 1) := by decide +kernel
theorem dX11_init_152 : decode cX11_init 152 = .ok (.iconst 4, 1) := by decide +kernel
theorem dX11_init_153 : decode cX11_init 153 = .ok (.newarray .int, 2) := by decide +kernel
theorem dX11_init_155 : decode cX11_init 155 = .ok (.putfield 69, 3) := by decide +kernel
theorem dX11_init_158 : decode cX11_init 158 = .ok (.aload_n 0, 1) := by decide +kernel
theorem dX11_init_159 : decode cX11_init 159 = .ok (.bipush 40, 2) := by decide +kernel
theorem dX11_init_161 : decode cX11_init 161 = .ok (.newarray .int, 2) := by decide +kernel
theorem dX11_init_163 : decode cX11_init 163 = .ok (.putfield 72, 3) := by decide +kernel
theorem dX11_init_166 : decode cX11_init 166 = .ok (.aload_n 0, 1) := by decide +kernel
theorem dX11_init_167 : decode cX11_init 167 = .ok (.bipush 40, 2) := by decide +kernel
theorem dX11_init_169 : decode cX11_init 169 = .ok (.newarray .int, 2) := by decide +kernel
theorem dX11_init_171 : decode cX11_init 171 = .ok (.putfield 75, 3) := by decide +kernel
theorem dX11_init_174 : decode cX11_init 174 = .ok (.aload_n 0, 1) := by decide +kernel
theorem dX11_init_175 : decode cX11_init 175 = .ok (.bipush 40, 2) := by decide +kernel
theorem dX11_init_177 : decode cX11_init 177 = .ok (.newarray .int, 2) := by decide +kernel
theorem dX11_init_179 : decode cX11_init 179 = .ok (.putfield 78, 3) := by decide +kernel
theorem dX11_init_182 : decode cX11_init 182 = .ok (.aload_n 0, 1) := by decide +kernel
theorem dX11_init_183 : decode cX11_init 183 = .ok (.bipush 40, 2) := by decide +kernel
theorem dX11_init_185 : decode cX11_init 185 = .ok (.newarray .int, 2) := by decide +kernel
theorem dX11_init_187 : decode cX11_init 187 = .ok (.putfield 81, 3) := by decide +kernel
theorem dX11_init_190 : decode cX11_init 190 = .ok (.aload_n 0, 1) := by decide +kernel
theorem dX11_init_191 : decode cX11_init 191 = .ok (.bipush 40, 2) := by decide +kernel
theorem dX11_init_193 : decode cX11_init 193 = .ok (.newarray .int, 2) := by decide +kernel
theorem dX11_init_195 : decode cX11_init 195 = .ok (.putfield 84, 3) := by decide +kernel
theorem dX11_init_198 : decode cX11_init 198 = .ok (.aload_n 0, 1) := by decide +kernel
theorem dX11_init_199 : decode cX11_init 199 = .ok (.bipush 60, 2) := by decide +kernel
theorem dX11_init_201 : decode cX11_init 201 = .ok (.newarray .int, 2) := by decide +kernel
theorem dX11_init_203 : decode cX11_init 203 = .ok (.putfield 87, 3) := by decide +kernel
theorem dX11_init_206 : decode cX11_init 206 = .ok (.aload_n 0, 1) := by decide +kernel
theorem dX11_init_207 : decode cX11_init 207 = .ok (.bipush 60, 2) := by decide +kernel
theorem dX11_init_209 : decode cX11_init 209 = .ok (.newarray .int, 2) := by decide +kernel
theorem dX11_init_211 : decode cX11_init 211 = .ok (.putfield 90, 3) := by decide +kernel
theorem dX11_init_214 : decode cX11_init 214 = .ok (.aload_n 0, 1) := by decide +kernel
theorem dX11_init_215 : decode cX11_init 215 = .ok (.sipush 240, 3) := by decide +kernel
theorem dX11_init_218 : decode cX11_init 218 = .ok (.newarray .int, 2) := by decide +kernel
theorem dX11_init_220 : decode cX11_init 220 = .ok (.putfield 93, 3) := by decide +kernel
theorem dX11_init_223 : decode cX11_init 223 = .ok (.aload_n 0, 1) := by decide +kernel
theorem dX11_init_224 : decode cX11_init 224 = .ok (.bipush 60, 2) := by decide +kernel
theorem dX11_init_226 : decode cX11_init 226 = .ok (.newarray .int, 2) := by decide +kernel
theorem dX11_init_228 : decode cX11_init 228 = .ok (.putfield 96, 3) := by decide +kernel
theorem dX11_init_231 : decode cX11_init 231 = .ok (.aload_n 0, 1) := by decide +kernel
theorem dX11_init_232 : decode cX11_init 232 = .ok (.bipush 60, 2) := by decide +kernel
theorem dX11_init_234 : decode cX11_init 234 = .ok (.newarray .int, 2) := by decide +kernel
theorem dX11_init_236 : decode cX11_init 236 = .ok (.putfield 99, 3) := by decide +kernel
theorem dX11_init_239 : decode cX11_init 239 = .ok (.aload_n 0, 1) := by decide +kernel
theorem dX11_init_240 : decode cX11_init 240 = .ok (.iconst 4, 1) := by decide +kernel
theorem dX11_init_241 : decode cX11_init 241 = .ok (.newarray .int, 2) := by decide +kernel
theorem dX11_init_243 : decode cX11_init 243 = .ok (.putfield 102, 3) := by decide +kernel
theorem dX11_init_246 : decode cX11_init 246 = .ok (.aload_n 0, 1) := by decide +kernel
theorem dX11_init_247 : decode cX11_init 247 = .ok (.iconst 4, 1) := by decide +kernel
theorem dX11_init_248 : decode cX11_init 248 = .ok (.newarray .int, 2) := by decide +kernel
theorem dX11_init_250 : decode cX11_init 250 = .ok (.putfield 105, 3) := by decide +kernel
theorem dX11_init_253 : decode cX11_init 253 = .ok (.aload_n 0, 1) := by decide +kernel
theorem dX11_init_254 : decode cX11_init 254 = .ok (.iconst 3, 1) := by decide +kernel
theorem dX11_init_255 : decode cX11_init 255 = .ok (.newarray .long, 2) := by decide +kernel
theorem dX11_init_257 : decode cX11_init 257 = .ok (.putfield 108, 3) := by decide +kernel
theorem dX11_init_260 : decode cX11_init 260 = .ok (.aload_n 0, 1) := by decide +kernel
theorem dX11_init_261 : decode cX11_init 261 = .ok (.iconst 3, 1) := by decide +kernel
theorem dX11_init_262 : decode cX11_init 262 = .ok (.newarray .long, 2) := by decide +kernel
theorem dX11_init_264 : decode cX11_init 264 = .ok (.putfield 112, 3) := by decide +kernel
theorem dX11_init_267 : decode cX11_init 267 = .ok (.aload_n 0, 1) := by decide +kernel
theorem dX11_init_268 : decode cX11_init 268 = .ok (.iconst 3, 1) := by decide +kernel
theorem dX11_init_269 : decode cX11_init 269 = .ok (.newarray .long, 2) := by decide +kernel
theorem dX11_init_271 : decode cX11_init 271 = .ok (.putfield 115, 3) := by decide +kernel
theorem dX11_init_274 : decode cX11_init 274 = .ok (.aload_n 0, 1) := by decide +kernel
theorem dX11_init_275 : decode cX11_init 275 = .ok (.iconst 3, 1) := by decide +kernel
theorem dX11_init_276 : decode cX11_init 276 = .ok (.newarray .long, 2) := by decide +kernel
theorem dX11_init_278 : decode cX11_init 278 = .ok (.putfield 118, 3) := by decide +kernel
theorem dX11_init_281 : decode cX11_init 281 = .ok (.aload_n 0, 1) := by decide +kernel
theorem dX11_init_282 : decode cX11_init 282 = .ok (.iconst 4, 1) := by decide +kernel
theorem dX11_init_283 : decode cX11_init 283 = .ok (.newarray .int, 2) := by decide +kernel
theorem dX11_init_285 : decode cX11_init 285 = .ok (.putfield 121, 3) := by decide +kernel
theorem dX11_init_288 : decode cX11_init 288 = .ok (.aload_n 0, 1) := by decide +kernel
theorem dX11_init_289 : decode cX11_init 289 = .ok (.bipush 60, 2) := by decide +kernel
theorem dX11_init_291 : decode cX11_init 291 = .ok (.newarray .int, 2) := by decide +kernel
theorem dX11_init_293 : decode cX11_init 293 = .ok (.putfield 124, 3) := by decide +kernel
theorem dX11_init_296 : decode cX11_init 296 = .ok (.aload_n 0, 1) := by decide +kernel
theorem dX11_init_297 : decode cX11_init 297 = .ok (.bipush 12, 2) := by decide +kernel
theorem dX11_init_299 : decode cX11_init 299 = .ok (.newarray .int, 2) := by decide +kernel
theorem dX11_init_301 : decode cX11_init 301 = .ok (.putfield 127, 3) := by decide +kernel
theorem dX11_init_304 : decode cX11_init 304 = .ok (.return_, 1) := by decide +kernel
theorem dX11_in_0 : decode cX11_in 0 = .ok (.lload_n 0, 1) := by decide +kernel
theorem dX11_in_1 : decode cX11_in 1 = .ok (.lload_n 2, 1) := by decide +kernel
theorem dX11_in_2 : decode cX11_in 2 = .ok (.lcmp, 1) := by decide +kernel
theorem dX11_in_3 : decode cX11_in 3 = .ok (.ifCond .lt 14, 3) := by decide +kernel
theorem dX11_in_6 : decode cX11_in 6 = .ok (.lload_n 0, 1) := by decide +kernel
theorem dX11_in_7 : decode cX11_in 7 = .ok (.lload 4, 2) := by decide +kernel
theorem dX11_in_9 : decode cX11_in 9 = .ok (.lcmp, 1) := by decide +kernel
theorem dX11_in_10 : decode cX11_in 10 = .ok (.ifCond .gt 7, 3) := by decide +kernel
theorem dX11_in_13 : decode cX11_in 13 = .ok (.iconst 1, 1) := by decide +kernel
theorem dX11_in_14 : decode cX11_in 14 = .ok (.goto 4, 3) := by decide +kernel
theorem dX11_in_17 : decode cX11_in 17 = .ok (.iconst 0, 1) := by decide +kernel
theorem dX11_in_18 : decode cX11_in 18 = .ok (.ireturn, 1) := by decide +kernel
theorem dX11_floor_0 : decode cX11_floor 0 = .ok (.lload_n 0, 1) := by decide +kernel
theorem dX11_floor_1 : decode cX11_floor 1 = .ok (.lconst 0, 1) := by decide +kernel
theorem dX11_floor_2 : decode cX11_floor 2 = .ok (.lcmp, 1) := by decide +kernel
theorem dX11_floor_3 : decode cX11_floor 3 = .ok (.ifCond .lt 9, 3) := by decide +kernel
theorem dX11_floor_6 : decode cX11_floor 6 = .ok (.lload_n 0, 1) := by decide +kernel
theorem dX11_floor_7 : decode cX11_floor 7 = .ok (.lload_n 2, 1) := by decide +kernel
theorem dX11_floor_8 : decode cX11_floor 8 = .ok (.ldiv, 1) := by decide +kernel
theorem dX11_floor_9 : decode cX11_floor 9 = .ok (.goto 12, 3) := by decide +kernel
theorem dX11_floor_12 : decode cX11_floor 12 = .ok (.lload_n 0, 1) := by decide +kernel
theorem dX11_floor_13 : decode cX11_floor 13 = .ok (.lneg, 1) := by decide +kernel
theorem dX11_floor_14 : decode cX11_floor 14 = .ok (.lload_n 2, 1) := by decide +kernel
theorem dX11_floor_15 : decode cX11_floor 15 = .ok (.ladd, 1) := by decide +kernel
theorem dX11_floor_16 : decode cX11_floor 16 = .ok (.lconst 1, 1) := by decide +kernel
theorem dX11_floor_17 : decode cX11_floor 17 = .ok (.lsub, 1) := by decide +kernel
theorem dX11_floor_18 : decode cX11_floor 18 = .ok (.lload_n 2, 1) := by decide +kernel
theorem dX11_floor_19 : decode cX11_floor 19 = .ok (.ldiv, 1) := by decide +kernel
theorem dX11_floor_20 : decode cX11_floor 20 = .ok (.lneg, 1) := by decide +kernel
theorem dX11_floor_21 : decode cX11_floor 21 = .ok (.lreturn, 1) := by decide +kernel
theorem dX11_nearest_0 : decode cX11_nearest 0 = .ok (.ldc2_w 130, 3) := by decide +kernel
theorem dX11_nearest_3 : decode cX11_nearest 3 = .ok (.lload_n 0, 1) := by decide +kernel
theorem dX11_nearest_4 : decode cX11_nearest 4 = .ok (.lmul, 1) := by decide +kernel
theorem dX11_nearest_5 : decode cX11_nearest 5 = .ok (.lload_n 2, 1) := by decide +kernel
theorem dX11_nearest_6 : decode cX11_nearest 6 = .ok (.ladd, 1) := by decide +kernel
theorem dX11_nearest_7 : decode cX11_nearest 7 = .ok (.ldc2_w 130, 3) := by decide +kernel
theorem dX11_nearest_10 : decode cX11_nearest 10 = .ok (.lload_n 2, 1) := by decide +kernel
theorem dX11_nearest_11 : decode cX11_nearest 11 = .ok (.lmul, 1) := by decide +kernel
theorem dX11_nearest_12 : decode cX11_nearest 12 = .ok (.invokestatic 132, 3) := by decide +kernel
theorem dX11_nearest_15 : decode cX11_nearest 15 = .ok (.lreturn, 1) := by decide +kernel
theorem dX11_feed_0 : decode cX11_feed 0 = .ok (.aload_n 0, 1) := by decide +kernel
theorem dX11_feed_1 : decode cX11_feed 1 = .ok (.getfield 136, 3) := by decide +kernel
theorem dX11_feed_4 : decode cX11_feed 4 = .ok (.bipush 20, 2) := by decide +kernel
theorem dX11_feed_6 : decode cX11_feed 6 = .ok (.iadd, 1) := by decide +kernel
theorem dX11_feed_7 : decode cX11_feed 7 = .ok (.bipush 120, 2) := by decide +kernel
theorem dX11_feed_9 : decode cX11_feed 9 = .ok (.if_icmp .le 5, 3) := by decide +kernel
theorem dX11_feed_12 : decode cX11_feed 12 = .ok (.iconst (-1), 1) := by decide +kernel
theorem dX11_feed_13 : decode cX11_feed 13 = .ok (.ireturn, 1) := by decide +kernel
theorem dX11_feed_14 : decode cX11_feed 14 = .ok (.iconst 0, 1) := by decide +kernel
theorem dX11_feed_15 : decode cX11_feed 15 = .ok (.istore 6, 2) := by decide +kernel
theorem dX11_feed_17 : decode cX11_feed 17 = .ok (.iload 6, 2) := by decide +kernel
theorem dX11_feed_19 : decode cX11_feed 19 = .ok (.bipush 20, 2) := by decide +kernel
theorem dX11_feed_21 : decode cX11_feed 21 = .ok (.if_icmp .ge 90, 3) := by decide +kernel
theorem dX11_feed_24 : decode cX11_feed 24 = .ok (.iload 6, 2) := by decide +kernel
theorem dX11_feed_26 : decode cX11_feed 26 = .ok (.iconst 4, 1) := by decide +kernel
theorem dX11_feed_27 : decode cX11_feed 27 = .ok (.if_icmp .ge 7, 3) := by decide +kernel
theorem dX11_feed_30 : decode cX11_feed 30 = .ok (.iload_n 1, 1) := by decide +kernel
theorem dX11_feed_31 : decode cX11_feed 31 = .ok (.goto 39, 3) := by decide +kernel
theorem dX11_feed_34 : decode cX11_feed 34 = .ok (.iload 6, 2) := by decide +kernel
theorem dX11_feed_36 : decode cX11_feed 36 = .ok (.bipush 8, 2) := by decide +kernel
theorem dX11_feed_38 : decode cX11_feed 38 = .ok (.if_icmp .ge 7, 3) := by decide +kernel
theorem dX11_feed_41 : decode cX11_feed 41 = .ok (.iload_n 2, 1) := by decide +kernel
theorem dX11_feed_42 : decode cX11_feed 42 = .ok (.goto 28, 3) := by decide +kernel
theorem dX11_feed_45 : decode cX11_feed 45 = .ok (.iload 6, 2) := by decide +kernel
theorem dX11_feed_47 : decode cX11_feed 47 = .ok (.bipush 12, 2) := by decide +kernel
theorem dX11_feed_49 : decode cX11_feed 49 = .ok (.if_icmp .ge 7, 3) := by decide +kernel
theorem dX11_feed_52 : decode cX11_feed 52 = .ok (.iload_n 3, 1) := by decide +kernel
theorem dX11_feed_53 : decode cX11_feed 53 = .ok (.goto 17, 3) := by decide +kernel
theorem dX11_feed_56 : decode cX11_feed 56 = .ok (.iload 6, 2) := by decide +kernel
theorem dX11_feed_58 : decode cX11_feed 58 = .ok (.bipush 16, 2) := by decide +kernel
theorem dX11_feed_60 : decode cX11_feed 60 = .ok (.if_icmp .ge 8, 3) := by decide +kernel
theorem dX11_feed_63 : decode cX11_feed 63 = .ok (.iload 4, 2) := by decide +kernel
theorem dX11_feed_65 : decode cX11_feed 65 = .ok (.goto 5, 3) := by decide +kernel
theorem dX11_feed_68 : decode cX11_feed 68 = .ok (.iload 5, 2) := by decide +kernel
theorem dX11_feed_70 : decode cX11_feed 70 = .ok (.istore 7, 2) := by decide +kernel
theorem dX11_feed_72 : decode cX11_feed 72 = .ok (.aload_n 0, 1) := by decide +kernel
theorem dX11_feed_73 : decode cX11_feed 73 = .ok (.getfield 9, 3) := by decide +kernel
theorem dX11_feed_76 : decode cX11_feed 76 = .ok (.aload_n 0, 1) := by decide +kernel
theorem dX11_feed_77 : decode cX11_feed 77 = .ok (.getfield 136, 3) := by decide +kernel
theorem dX11_feed_80 : decode cX11_feed 80 = .ok (.iload 7, 2) := by decide +kernel
theorem dX11_feed_82 : decode cX11_feed 82 = .ok (.bipush 24, 2) := by decide +kernel
theorem dX11_feed_84 : decode cX11_feed 84 = .ok (.bipush 8, 2) := by decide +kernel
theorem dX11_feed_86 : decode cX11_feed 86 = .ok (.iload 6, 2) := by decide +kernel
theorem dX11_feed_88 : decode cX11_feed 88 = .ok (.iconst 4, 1) := by decide +kernel
theorem dX11_feed_89 : decode cX11_feed 89 = .ok (.irem, 1) := by decide +kernel
theorem dX11_feed_90 : decode cX11_feed 90 = .ok (.imul, 1) := by decide +kernel
theorem dX11_feed_91 : decode cX11_feed 91 = .ok (.isub, 1) := by decide +kernel
theorem dX11_feed_92 : decode cX11_feed 92 = .ok (.ishr, 1) := by decide +kernel
theorem dX11_feed_93 : decode cX11_feed 93 = .ok (.i2b, 1) := by decide +kernel
theorem dX11_feed_94 : decode cX11_feed 94 = .ok (.bastore, 1) := by decide +kernel
theorem dX11_feed_95 : decode cX11_feed 95 = .ok (.aload_n 0, 1) := by decide +kernel
theorem dX11_feed_96 : decode cX11_feed 96 = .ok (.dup, 1) := by decide +kernel
theorem dX11_feed_97 : decode cX11_feed 97 = .ok (.getfield 136, 3) := by decide +kernel
theorem dX11_feed_100 : decode cX11_feed 100 = .ok (.iconst 1, 1) := by decide +kernel
theorem dX11_feed_101 : decode cX11_feed 101 = .ok (.iadd, 1) := by decide +kernel
theorem dX11_feed_102 : decode cX11_feed 102 = .ok (.putfield 136, 3) := by decide +kernel
theorem dX11_feed_105 : decode cX11_feed 105 = .ok (.iinc 6 1, 3) := by decide +kernel
theorem dX11_feed_108 : decode cX11_feed 108 = .ok (.goto (-91), 3) := by decide +kernel
theorem dX11_feed_111 : decode cX11_feed 111 = .ok (.aload_n 0, 1) := by decide +kernel
theorem dX11_feed_112 : decode cX11_feed 112 = .ok (.getfield 136, 3) := by decide +kernel
theorem dX11_feed_115 : decode cX11_feed 115 = .ok (.ireturn, 1) := by decide +kernel
theorem dX11_end_0 : decode cX11_end 0 = .ok (.iload_n 1, 1) := by decide +kernel
theorem dX11_end_1 : decode cX11_end 1 = .ok (.i2l, 1) := by decide +kernel
theorem dX11_end_2 : decode cX11_end 2 = .ok (.lconst 0, 1) := by decide +kernel
theorem dX11_end_3 : decode cX11_end 3 = .ok (.aload_n 0, 1) := by decide +kernel
theorem dX11_end_4 : decode cX11_end 4 = .ok (.getfield 136, 3) := by decide +kernel
theorem dX11_end_7 : decode cX11_end 7 = .ok (.i2l, 1) := by decide +kernel
theorem dX11_end_8 : decode cX11_end 8 = .ok (.invokestatic 139, 3) := by decide +kernel
theorem dX11_end_11 : decode cX11_end 11 = .ok (.ifCond .ne 5, 3) := by decide +kernel
theorem dX11_end_14 : decode cX11_end 14 = .ok (.iconst 0, 1) := by decide +kernel
theorem dX11_end_15 : decode cX11_end 15 = .ok (.ireturn, 1) := by decide +kernel
theorem dX11_end_16 : decode cX11_end 16 = .ok (.aload_n 0, 1) := by decide +kernel
theorem dX11_end_17 : decode cX11_end 17 = .ok (.iload_n 1, 1) := by decide +kernel
theorem dX11_end_18 : decode cX11_end 18 = .ok (.putfield 136, 3) := by decide +kernel
theorem dX11_end_21 : decode cX11_end 21 = .ok (.iconst 1, 1) := by decide +kernel
theorem dX11_end_22 : decode cX11_end 22 = .ok (.ireturn, 1) := by decide +kernel
theorem dX11_next_0 : decode cX11_next 0 = .ok (.aload_n 0, 1) := by decide +kernel
theorem dX11_next_1 : decode cX11_next 1 = .ok (.getfield 143, 3) := by decide +kernel
theorem dX11_next_4 : decode cX11_next 4 = .ok (.aload_n 0, 1) := by decide +kernel
theorem dX11_next_5 : decode cX11_next 5 = .ok (.getfield 136, 3) := by decide +kernel
theorem dX11_next_8 : decode cX11_next 8 = .ok (.if_icmp .ge 30, 3) := by decide +kernel
theorem dX11_next_11 : decode cX11_next 11 = .ok (.aload_n 0, 1) := by decide +kernel
theorem dX11_next_12 : decode cX11_next 12 = .ok (.getfield 9, 3) := by decide +kernel
theorem dX11_next_15 : decode cX11_next 15 = .ok (.aload_n 0, 1) := by decide +kernel
theorem dX11_next_16 : decode cX11_next 16 = .ok (.getfield 143, 3) := by decide +kernel
theorem dX11_next_19 : decode cX11_next 19 = .ok (.baload, 1) := by decide +kernel
theorem dX11_next_20 : decode cX11_next 20 = .ok (.bipush 32, 2) := by decide +kernel
theorem dX11_next_22 : decode cX11_next 22 = .ok (.if_icmp .ne 16, 3) := by decide +kernel
theorem dX11_next_25 : decode cX11_next 25 = .ok (.aload_n 0, 1) := by decide +kernel
theorem dX11_next_26 : decode cX11_next 26 = .ok (.dup, 1) := by decide +kernel
theorem dX11_next_27 : decode cX11_next 27 = .ok (.getfield 143, 3) := by decide +kernel
theorem dX11_next_30 : decode cX11_next 30 = .ok (.iconst 1, 1) := by decide +kernel
theorem dX11_next_31 : decode cX11_next 31 = .ok (.iadd, 1) := by decide +kernel
theorem dX11_next_32 : decode cX11_next 32 = .ok (.putfield 143, 3) := by decide +kernel
theorem dX11_next_35 : decode cX11_next 35 = .ok (.goto (-35), 3) := by decide +kernel
theorem dX11_next_38 : decode cX11_next 38 = .ok (.aload_n 0, 1) := by decide +kernel
theorem dX11_next_39 : decode cX11_next 39 = .ok (.aload_n 0, 1) := by decide +kernel
theorem dX11_next_40 : decode cX11_next 40 = .ok (.getfield 143, 3) := by decide +kernel
theorem dX11_next_43 : decode cX11_next 43 = .ok (.putfield 146, 3) := by decide +kernel
theorem dX11_next_46 : decode cX11_next 46 = .ok (.aload_n 0, 1) := by decide +kernel
theorem dX11_next_47 : decode cX11_next 47 = .ok (.iconst 0, 1) := by decide +kernel
theorem dX11_next_48 : decode cX11_next 48 = .ok (.putfield 149, 3) := by decide +kernel
theorem dX11_next_51 : decode cX11_next 51 = .ok (.aload_n 0, 1) := by decide +kernel
theorem dX11_next_52 : decode cX11_next 52 = .ok (.iconst 0, 1) := by decide +kernel
theorem dX11_next_53 : decode cX11_next 53 = .ok (.putfield 152, 3) := by decide +kernel
theorem dX11_next_56 : decode cX11_next 56 = .ok (.aload_n 0, 1) := by decide +kernel
theorem dX11_next_57 : decode cX11_next 57 = .ok (.getfield 143, 3) := by decide +kernel
theorem dX11_next_60 : decode cX11_next 60 = .ok (.aload_n 0, 1) := by decide +kernel
theorem dX11_next_61 : decode cX11_next 61 = .ok (.getfield 136, 3) := by decide +kernel
theorem dX11_next_64 : decode cX11_next 64 = .ok (.if_icmp .ne 4, 3) := by decide +kernel
theorem dX11_next_67 : decode cX11_next 67 = .ok (.return_, 1) := by decide +kernel
theorem dX11_next_68 : decode cX11_next 68 = .ok (.aload_n 0, 1) := by decide +kernel
theorem dX11_next_69 : decode cX11_next 69 = .ok (.getfield 9, 3) := by decide +kernel
theorem dX11_next_72 : decode cX11_next 72 = .ok (.aload_n 0, 1) := by decide +kernel
theorem dX11_next_73 : decode cX11_next 73 = .ok (.getfield 143, 3) := by decide +kernel
theorem dX11_next_76 : decode cX11_next 76 = .ok (.baload, 1) := by decide +kernel
theorem dX11_next_77 : decode cX11_next 77 = .ok (.istore_n 1, 1) := by decide +kernel
theorem dX11_next_78 : decode cX11_next 78 = .ok (.iload_n 1, 1) := by decide +kernel
theorem dX11_next_79 : decode cX11_next 79 = .ok (.bipush 48, 2) := by decide +kernel
theorem dX11_next_81 : decode cX11_next 81 = .ok (.if_icmp .lt 107, 3) := by decide +kernel
theorem dX11_next_84 : decode cX11_next 84 = .ok (.iload_n 1, 1) := by decide +kernel
theorem dX11_next_85 : decode cX11_next 85 = .ok (.bipush 57, 2) := by decide +kernel
theorem dX11_next_87 : decode cX11_next 87 = .ok (.if_icmp .gt 101, 3) := by decide +kernel
theorem dX11_next_90 : decode cX11_next 90 = .ok (.aload_n 0, 1) := by decide +kernel
theorem dX11_next_91 : decode cX11_next 91 = .ok (.getfield 143, 3) := by decide +kernel
theorem dX11_next_94 : decode cX11_next 94 = .ok (.aload_n 0, 1) := by decide +kernel
theorem dX11_next_95 : decode cX11_next 95 = .ok (.getfield 136, 3) := by decide +kernel
theorem dX11_next_98 : decode cX11_next 98 = .ok (.if_icmp .ge 84, 3) := by decide +kernel
theorem dX11_next_101 : decode cX11_next 101 = .ok (.aload_n 0, 1) := by decide +kernel
theorem dX11_next_102 : decode cX11_next 102 = .ok (.getfield 9, 3) := by decide +kernel
theorem dX11_next_105 : decode cX11_next 105 = .ok (.aload_n 0, 1) := by decide +kernel
theorem dX11_next_106 : decode cX11_next 106 = .ok (.getfield 143, 3) := by decide +kernel
theorem dX11_next_109 : decode cX11_next 109 = .ok (.baload, 1) := by decide +kernel
theorem dX11_next_110 : decode cX11_next 110 = .ok (.bipush 48, 2) := by decide +kernel
theorem dX11_next_112 : decode cX11_next 112 = .ok (.if_icmp .lt 70, 3) := by decide +kernel
theorem dX11_next_115 : decode cX11_next 115 = .ok (.aload_n 0, 1) := by decide +kernel
theorem dX11_next_116 : decode cX11_next 116 = .ok (.getfield 9, 3) := by decide +kernel
theorem dX11_next_119 : decode cX11_next 119 = .ok (.aload_n 0, 1) := by decide +kernel
theorem dX11_next_120 : decode cX11_next 120 = .ok (.getfield 143, 3) := by decide +kernel
theorem dX11_next_123 : decode cX11_next 123 = .ok (.baload, 1) := by decide +kernel
theorem dX11_next_124 : decode cX11_next 124 = .ok (.bipush 57, 2) := by decide +kernel
theorem dX11_next_126 : decode cX11_next 126 = .ok (.if_icmp .gt 56, 3) := by decide +kernel
theorem dX11_next_129 : decode cX11_next 129 = .ok (.aload_n 0, 1) := by decide +kernel
theorem dX11_next_130 : decode cX11_next 130 = .ok (.aload_n 0, 1) := by decide +kernel
theorem dX11_next_131 : decode cX11_next 131 = .ok (.getfield 152, 3) := by decide +kernel
theorem dX11_next_134 : decode cX11_next 134 = .ok (.ldc 155, 2) := by decide +kernel
theorem dX11_next_136 : decode cX11_next 136 = .ok (.if_icmp .le 10, 3) := by decide +kernel
theorem dX11_next_139 : decode cX11_next 139 = .ok (.aload_n 0, 1) := by decide +kernel
theorem dX11_next_140 : decode cX11_next 140 = .ok (.getfield 152, 3) := by decide +kernel
theorem dX11_next_143 : decode cX11_next 143 = .ok (.goto 23, 3) := by decide +kernel
theorem dX11_next_146 : decode cX11_next 146 = .ok (.bipush 10, 2) := by decide +kernel
theorem dX11_next_148 : decode cX11_next 148 = .ok (.aload_n 0, 1) := by decide +kernel
theorem dX11_next_149 : decode cX11_next 149 = .ok (.getfield 152, 3) := by decide +kernel
theorem dX11_next_152 : decode cX11_next 152 = .ok (.imul, 1) := by decide +kernel
theorem dX11_next_153 : decode cX11_next 153 = .ok (.aload_n 0, 1) := by decide +kernel
theorem dX11_next_154 : decode cX11_next 154 = .ok (.getfield 9, 3) := by decide +kernel
theorem dX11_next_157 : decode cX11_next 157 = .ok (.aload_n 0, 1) := by decide +kernel
theorem dX11_next_158 : decode cX11_next 158 = .ok (.getfield 143, 3) := by decide +kernel
theorem dX11_next_161 : decode cX11_next 161 = .ok (.baload, 1) := by decide +kernel
theorem dX11_next_162 : decode cX11_next 162 = .ok (.iadd, 1) := by decide +kernel
theorem dX11_next_163 : decode cX11_next 163 = .ok (.bipush 48, 2) := by decide +kernel
theorem dX11_next_165 : decode cX11_next 165 = .ok (.isub, 1) := by decide +kernel
theorem dX11_next_166 : decode cX11_next 166 = .ok (.putfield 152, 3) := by decide +kernel
theorem dX11_next_169 : decode cX11_next 169 = .ok (.aload_n 0, 1) := by decide +kernel
theorem dX11_next_170 : decode cX11_next 170 = .ok (.dup, 1) := by decide +kernel
theorem dX11_next_171 : decode cX11_next 171 = .ok (.getfield 143, 3) := by decide +kernel
theorem dX11_next_174 : decode cX11_next 174 = .ok (.iconst 1, 1) := by decide +kernel
theorem dX11_next_175 : decode cX11_next 175 = .ok (.iadd, 1) := by decide +kernel
theorem dX11_next_176 : decode cX11_next 176 = .ok (.putfield 143, 3) := by decide +kernel
theorem dX11_next_179 : decode cX11_next 179 = .ok (.goto (-89), 3) := by decide +kernel
theorem dX11_next_182 : decode cX11_next 182 = .ok (.aload_n 0, 1) := by decide +kernel
theorem dX11_next_183 : decode cX11_next 183 = .ok (.iconst 2, 1) := by decide +kernel
theorem dX11_next_184 : decode cX11_next 184 = .ok (.putfield 149, 3) := by decide +kernel
theorem dX11_next_187 : decode cX11_next 187 = .ok (.return_, 1) := by decide +kernel
theorem dX11_next_188 : decode cX11_next 188 = .ok (.aload_n 0, 1) := by decide +kernel
theorem dX11_next_189 : decode cX11_next 189 = .ok (.iload_n 1, 1) := by decide +kernel
theorem dX11_next_190 : decode cX11_next 190 = .ok (.bipush 97, 2) := by decide +kernel
theorem dX11_next_192 : decode cX11_next 192 = .ok (.if_icmp .lt 13, 3) := by decide +kernel
theorem dX11_next_195 : decode cX11_next 195 = .ok (.iload_n 1, 1) := by decide +kernel
theorem dX11_next_196 : decode cX11_next 196 = .ok (.bipush 122, 2) := by decide +kernel
theorem dX11_next_198 : decode cX11_next 198 = .ok (.if_icmp .gt 7, 3) := by decide +kernel
theorem dX11_next_201 : decode cX11_next 201 = .ok (.iconst 1, 1) := by decide +kernel
theorem dX11_next_202 : decode cX11_next 202 = .ok (.goto 44, 3) := by decide +kernel
theorem dX11_next_205 : decode cX11_next 205 = .ok (.iload_n 1, 1) := by decide +kernel
theorem dX11_next_206 : decode cX11_next 206 = .ok (.bipush 61, 2) := by decide +kernel
theorem dX11_next_208 : decode cX11_next 208 = .ok (.if_icmp .eq 33, 3) := by decide +kernel
theorem dX11_next_211 : decode cX11_next 211 = .ok (.iload_n 1, 1) := by decide +kernel
theorem dX11_next_212 : decode cX11_next 212 = .ok (.bipush 43, 2) := by decide +kernel
theorem dX11_next_214 : decode cX11_next 214 = .ok (.if_icmp .eq 27, 3) := by decide +kernel
theorem dX11_next_217 : decode cX11_next 217 = .ok (.iload_n 1, 1) := by decide +kernel
theorem dX11_next_218 : decode cX11_next 218 = .ok (.bipush 45, 2) := by decide +kernel
theorem dX11_next_220 : decode cX11_next 220 = .ok (.if_icmp .eq 21, 3) := by decide +kernel
theorem dX11_next_223 : decode cX11_next 223 = .ok (.iload_n 1, 1) := by decide +kernel
theorem dX11_next_224 : decode cX11_next 224 = .ok (.bipush 42, 2) := by decide +kernel
theorem dX11_next_226 : decode cX11_next 226 = .ok (.if_icmp .eq 15, 3) := by decide +kernel
theorem dX11_next_229 : decode cX11_next 229 = .ok (.iload_n 1, 1) := by decide +kernel
theorem dX11_next_230 : decode cX11_next 230 = .ok (.bipush 47, 2) := by decide +kernel
theorem dX11_next_232 : decode cX11_next 232 = .ok (.if_icmp .eq 9, 3) := by decide +kernel
theorem dX11_next_235 : decode cX11_next 235 = .ok (.iload_n 1, 1) := by decide +kernel
theorem dX11_next_236 : decode cX11_next 236 = .ok (.bipush 59, 2) := by decide +kernel
theorem dX11_next_238 : decode cX11_next 238 = .ok (.if_icmp .ne 7, 3) := by decide +kernel
theorem dX11_next_241 : decode cX11_next 241 = .ok (.iconst 3, 1) := by decide +kernel
theorem dX11_next_242 : decode cX11_next 242 = .ok (.goto 4, 3) := by decide +kernel
theorem dX11_next_245 : decode cX11_next 245 = .ok (.iconst 4, 1) := by decide +kernel
theorem dX11_next_246 : decode cX11_next 246 = .ok (.putfield 149, 3) := by decide +kernel
theorem dX11_next_249 : decode cX11_next 249 = .ok (.aload_n 0, 1) := by decide +kernel
theorem dX11_next_250 : decode cX11_next 250 = .ok (.iload_n 1, 1) := by decide +kernel
theorem dX11_next_251 : decode cX11_next 251 = .ok (.putfield 152, 3) := by decide +kernel
theorem dX11_next_254 : decode cX11_next 254 = .ok (.aload_n 0, 1) := by decide +kernel
theorem dX11_next_255 : decode cX11_next 255 = .ok (.dup, 1) := by decide +kernel
theorem dX11_next_256 : decode cX11_next 256 = .ok (.getfield 143, 3) := by decide +kernel
theorem dX11_next_259 : decode cX11_next 259 = .ok (.iconst 1, 1) := by decide +kernel
theorem dX11_next_260 : decode cX11_next 260 = .ok (.iadd, 1) := by decide +kernel
theorem dX11_next_261 : decode cX11_next 261 = .ok (.putfield 143, 3) := by decide +kernel
theorem dX11_next_264 : decode cX11_next 264 = .ok (.return_, 1) := by decide +kernel
theorem dX11_isSign_0 : decode cX11_isSign 0 = .ok (.aload_n 0, 1) := by decide +kernel
theorem dX11_isSign_1 : decode cX11_isSign 1 = .ok (.getfield 149, 3) := by decide +kernel
theorem dX11_isSign_4 : decode cX11_isSign 4 = .ok (.iconst 3, 1) := by decide +kernel
theorem dX11_isSign_5 : decode cX11_isSign 5 = .ok (.if_icmp .ne 15, 3) := by decide +kernel
theorem dX11_isSign_8 : decode cX11_isSign 8 = .ok (.aload_n 0, 1) := by decide +kernel
theorem dX11_isSign_9 : decode cX11_isSign 9 = .ok (.getfield 152, 3) := by decide +kernel
theorem dX11_isSign_12 : decode cX11_isSign 12 = .ok (.iload_n 1, 1) := by decide +kernel
theorem dX11_isSign_13 : decode cX11_isSign 13 = .ok (.if_icmp .ne 7, 3) := by decide +kernel
theorem dX11_isSign_16 : decode cX11_isSign 16 = .ok (.iconst 1, 1) := by decide +kernel
theorem dX11_isSign_17 : decode cX11_isSign 17 = .ok (.goto 4, 3) := by decide +kernel
theorem dX11_isSign_20 : decode cX11_isSign 20 = .ok (.iconst 0, 1) := by decide +kernel
theorem dX11_isSign_21 : decode cX11_isSign 21 = .ok (.ireturn, 1) := by decide +kernel
theorem dX11_isNew_0 : decode cX11_isNew 0 = .ok (.aload_n 0, 1) := by decide +kernel
theorem dX11_isNew_1 : decode cX11_isNew 1 = .ok (.getfield 149, 3) := by decide +kernel
theorem dX11_isNew_4 : decode cX11_isNew 4 = .ok (.iconst 1, 1) := by decide +kernel
theorem dX11_isNew_5 : decode cX11_isNew 5 = .ok (.if_icmp .eq 5, 3) := by decide +kernel
theorem dX11_isNew_8 : decode cX11_isNew 8 = .ok (.iconst 0, 1) := by decide +kernel
theorem dX11_isNew_9 : decode cX11_isNew 9 = .ok (.ireturn, 1) := by decide +kernel
theorem dX11_isNew_10 : decode cX11_isNew 10 = .ok (.iconst 0, 1) := by decide +kernel
theorem dX11_isNew_11 : decode cX11_isNew 11 = .ok (.istore_n 1, 1) := by decide +kernel
theorem dX11_isNew_12 : decode cX11_isNew 12 = .ok (.iload_n 1, 1) := by decide +kernel
theorem dX11_isNew_13 : decode cX11_isNew 13 = .ok (.aload_n 0, 1) := by decide +kernel
theorem dX11_isNew_14 : decode cX11_isNew 14 = .ok (.getfield 156, 3) := by decide +kernel
theorem dX11_isNew_17 : decode cX11_isNew 17 = .ok (.if_icmp .ge 24, 3) := by decide +kernel
theorem dX11_isNew_20 : decode cX11_isNew 20 = .ok (.aload_n 0, 1) := by decide +kernel
theorem dX11_isNew_21 : decode cX11_isNew 21 = .ok (.getfield 13, 3) := by decide +kernel
theorem dX11_isNew_24 : decode cX11_isNew 24 = .ok (.iload_n 1, 1) := by decide +kernel
theorem dX11_isNew_25 : decode cX11_isNew 25 = .ok (.iaload, 1) := by decide +kernel
theorem dX11_isNew_26 : decode cX11_isNew 26 = .ok (.aload_n 0, 1) := by decide +kernel
theorem dX11_isNew_27 : decode cX11_isNew 27 = .ok (.getfield 152, 3) := by decide +kernel
theorem dX11_isNew_30 : decode cX11_isNew 30 = .ok (.if_icmp .ne 5, 3) := by decide +kernel
theorem dX11_isNew_33 : decode cX11_isNew 33 = .ok (.iconst 0, 1) := by decide +kernel
theorem dX11_isNew_34 : decode cX11_isNew 34 = .ok (.ireturn, 1) := by decide +kernel
theorem dX11_isNew_35 : decode cX11_isNew 35 = .ok (.iinc 1 1, 3) := by decide +kernel
theorem dX11_isNew_38 : decode cX11_isNew 38 = .ok (.goto (-26), 3) := by decide +kernel
theorem dX11_isNew_41 : decode cX11_isNew 41 = .ok (.iconst 1, 1) := by decide +kernel
theorem dX11_isNew_42 : decode cX11_isNew 42 = .ok (.ireturn, 1) := by decide +kernel
theorem dX11_form_0 : decode cX11_form 0 = .ok (.aload_n 0, 1) := by decide +kernel
theorem dX11_form_1 : decode cX11_form 1 = .ok (.getfield 156, 3) := by decide +kernel
theorem dX11_form_4 : decode cX11_form 4 = .ok (.iconst 5, 1) := by decide +kernel
theorem dX11_form_5 : decode cX11_form 5 = .ok (.if_icmp .ne 5, 3) := by decide +kernel
theorem dX11_form_8 : decode cX11_form 8 = .ok (.iconst 0, 1) := by decide +kernel
theorem dX11_form_9 : decode cX11_form 9 = .ok (.ireturn, 1) := by decide +kernel
theorem dX11_form_10 : decode cX11_form 10 = .ok (.aload_n 0, 1) := by decide +kernel
theorem dX11_form_11 : decode cX11_form 11 = .ok (.bipush 47, 2) := by decide +kernel
theorem dX11_form_13 : decode cX11_form 13 = .ok (.invokevirtual 159, 3) := by decide +kernel
theorem dX11_form_16 : decode cX11_form 16 = .ok (.istore_n 2, 1) := by decide +kernel
theorem dX11_form_17 : decode cX11_form 17 = .ok (.iload_n 2, 1) := by decide +kernel
theorem dX11_form_18 : decode cX11_form 18 = .ok (.ifCond .eq 7, 3) := by decide +kernel
theorem dX11_form_21 : decode cX11_form 21 = .ok (.aload_n 0, 1) := by decide +kernel
theorem dX11_form_22 : decode cX11_form 22 = .ok (.invokevirtual 163, 3) := by decide +kernel
theorem dX11_form_25 : decode cX11_form 25 = .ok (.aload_n 0, 1) := by decide +kernel
theorem dX11_form_26 : decode cX11_form 26 = .ok (.invokevirtual 166, 3) := by decide +kernel
theorem dX11_form_29 : decode cX11_form 29 = .ok (.ifCond .ne 5, 3) := by decide +kernel
theorem dX11_form_32 : decode cX11_form 32 = .ok (.iconst 0, 1) := by decide +kernel
theorem dX11_form_33 : decode cX11_form 33 = .ok (.ireturn, 1) := by decide +kernel
theorem dX11_form_34 : decode cX11_form 34 = .ok (.aload_n 0, 1) := by decide +kernel
theorem dX11_form_35 : decode cX11_form 35 = .ok (.getfield 152, 3) := by decide +kernel
theorem dX11_form_38 : decode cX11_form 38 = .ok (.istore_n 3, 1) := by decide +kernel
theorem dX11_form_39 : decode cX11_form 39 = .ok (.aload_n 0, 1) := by decide +kernel
theorem dX11_form_40 : decode cX11_form 40 = .ok (.invokevirtual 163, 3) := by decide +kernel
theorem dX11_form_43 : decode cX11_form 43 = .ok (.iload_n 2, 1) := by decide +kernel
theorem dX11_form_44 : decode cX11_form 44 = .ok (.ifCond .ne 16, 3) := by decide +kernel
theorem dX11_form_47 : decode cX11_form 47 = .ok (.aload_n 0, 1) := by decide +kernel
theorem dX11_form_48 : decode cX11_form 48 = .ok (.bipush 42, 2) := by decide +kernel
theorem dX11_form_50 : decode cX11_form 50 = .ok (.invokevirtual 159, 3) := by decide +kernel
theorem dX11_form_53 : decode cX11_form 53 = .ok (.ifCond .eq 7, 3) := by decide +kernel
theorem dX11_form_56 : decode cX11_form 56 = .ok (.iconst 1, 1) := by decide +kernel
theorem dX11_form_57 : decode cX11_form 57 = .ok (.goto 4, 3) := by decide +kernel
theorem dX11_form_60 : decode cX11_form 60 = .ok (.iconst 0, 1) := by decide +kernel
theorem dX11_form_61 : decode cX11_form 61 = .ok (.istore 4, 2) := by decide +kernel
theorem dX11_form_63 : decode cX11_form 63 = .ok (.iload 4, 2) := by decide +kernel
theorem dX11_form_65 : decode cX11_form 65 = .ok (.ifCond .eq 29, 3) := by decide +kernel
theorem dX11_form_68 : decode cX11_form 68 = .ok (.aload_n 0, 1) := by decide +kernel
theorem dX11_form_69 : decode cX11_form 69 = .ok (.invokevirtual 163, 3) := by decide +kernel
theorem dX11_form_72 : decode cX11_form 72 = .ok (.aload_n 0, 1) := by decide +kernel
theorem dX11_form_73 : decode cX11_form 73 = .ok (.getfield 149, 3) := by decide +kernel
theorem dX11_form_76 : decode cX11_form 76 = .ok (.iconst 1, 1) := by decide +kernel
theorem dX11_form_77 : decode cX11_form 77 = .ok (.if_icmp .ne 11, 3) := by decide +kernel
theorem dX11_form_80 : decode cX11_form 80 = .ok (.aload_n 0, 1) := by decide +kernel
theorem dX11_form_81 : decode cX11_form 81 = .ok (.getfield 152, 3) := by decide +kernel
theorem dX11_form_84 : decode cX11_form 84 = .ok (.iload_n 3, 1) := by decide +kernel
theorem dX11_form_85 : decode cX11_form 85 = .ok (.if_icmp .eq 5, 3) := by decide +kernel
theorem dX11_form_88 : decode cX11_form 88 = .ok (.iconst 0, 1) := by decide +kernel
theorem dX11_form_89 : decode cX11_form 89 = .ok (.ireturn, 1) := by decide +kernel
theorem dX11_form_90 : decode cX11_form 90 = .ok (.aload_n 0, 1) := by decide +kernel
theorem dX11_form_91 : decode cX11_form 91 = .ok (.invokevirtual 163, 3) := by decide +kernel
theorem dX11_form_94 : decode cX11_form 94 = .ok (.aload_n 0, 1) := by decide +kernel
theorem dX11_form_95 : decode cX11_form 95 = .ok (.getfield 13, 3) := by decide +kernel
theorem dX11_form_98 : decode cX11_form 98 = .ok (.aload_n 0, 1) := by decide +kernel
theorem dX11_form_99 : decode cX11_form 99 = .ok (.getfield 156, 3) := by decide +kernel
theorem dX11_form_102 : decode cX11_form 102 = .ok (.iload_n 3, 1) := by decide +kernel
theorem dX11_form_103 : decode cX11_form 103 = .ok (.iastore, 1) := by decide +kernel
theorem dX11_form_104 : decode cX11_form 104 = .ok (.aload_n 0, 1) := by decide +kernel
theorem dX11_form_105 : decode cX11_form 105 = .ok (.getfield 17, 3) := by decide +kernel
theorem dX11_form_108 : decode cX11_form 108 = .ok (.aload_n 0, 1) := by decide +kernel
theorem dX11_form_109 : decode cX11_form 109 = .ok (.getfield 156, 3) := by decide +kernel
theorem dX11_form_112 : decode cX11_form 112 = .ok (.iload_n 2, 1) := by decide +kernel
theorem dX11_form_113 : decode cX11_form 113 = .ok (.ifCond .eq 7, 3) := by decide +kernel
theorem dX11_form_116 : decode cX11_form 116 = .ok (.iconst 2, 1) := by decide +kernel
theorem dX11_form_117 : decode cX11_form 117 = .ok (.goto 13, 3) := by decide +kernel
theorem dX11_form_120 : decode cX11_form 120 = .ok (.iload 4, 2) := by decide +kernel
theorem dX11_form_122 : decode cX11_form 122 = .ok (.ifCond .eq 7, 3) := by decide +kernel
theorem dX11_form_125 : decode cX11_form 125 = .ok (.iconst 1, 1) := by decide +kernel
theorem dX11_form_126 : decode cX11_form 126 = .ok (.goto 4, 3) := by decide +kernel
theorem dX11_form_129 : decode cX11_form 129 = .ok (.iconst 0, 1) := by decide +kernel
theorem dX11_form_130 : decode cX11_form 130 = .ok (.iastore, 1) := by decide +kernel
theorem dX11_form_131 : decode cX11_form 131 = .ok (.aload_n 0, 1) := by decide +kernel
theorem dX11_form_132 : decode cX11_form 132 = .ok (.getfield 20, 3) := by decide +kernel
theorem dX11_form_135 : decode cX11_form 135 = .ok (.aload_n 0, 1) := by decide +kernel
theorem dX11_form_136 : decode cX11_form 136 = .ok (.getfield 156, 3) := by decide +kernel
theorem dX11_form_139 : decode cX11_form 139 = .ok (.iload_n 1, 1) := by decide +kernel
theorem dX11_form_140 : decode cX11_form 140 = .ok (.iastore, 1) := by decide +kernel
theorem dX11_form_141 : decode cX11_form 141 = .ok (.aload_n 0, 1) := by decide +kernel
theorem dX11_form_142 : decode cX11_form 142 = .ok (.dup, 1) := by decide +kernel
theorem dX11_form_143 : decode cX11_form 143 = .ok (.getfield 156, 3) := by decide +kernel
theorem dX11_form_146 : decode cX11_form 146 = .ok (.iconst 1, 1) := by decide +kernel
theorem dX11_form_147 : decode cX11_form 147 = .ok (.iadd, 1) := by decide +kernel
theorem dX11_form_148 : decode cX11_form 148 = .ok (.putfield 156, 3) := by decide +kernel
theorem dX11_form_151 : decode cX11_form 151 = .ok (.iconst 1, 1) := by decide +kernel
theorem dX11_form_152 : decode cX11_form 152 = .ok (.ireturn, 1) := by decide +kernel
theorem dX11_part_0 : decode cX11_part 0 = .ok (.aload_n 0, 1) := by decide +kernel
theorem dX11_part_1 : decode cX11_part 1 = .ok (.bipush 45, 2) := by decide +kernel
theorem dX11_part_3 : decode cX11_part 3 = .ok (.invokevirtual 159, 3) := by decide +kernel
theorem dX11_part_6 : decode cX11_part 6 = .ok (.ifCond .eq 7, 3) := by decide +kernel
theorem dX11_part_9 : decode cX11_part 9 = .ok (.iconst (-1), 1) := by decide +kernel
theorem dX11_part_10 : decode cX11_part 10 = .ok (.goto 4, 3) := by decide +kernel
theorem dX11_part_13 : decode cX11_part 13 = .ok (.iconst 1, 1) := by decide +kernel
theorem dX11_part_14 : decode cX11_part 14 = .ok (.istore_n 1, 1) := by decide +kernel
theorem dX11_part_15 : decode cX11_part 15 = .ok (.aload_n 0, 1) := by decide +kernel
theorem dX11_part_16 : decode cX11_part 16 = .ok (.invokevirtual 163, 3) := by decide +kernel
theorem dX11_part_19 : decode cX11_part 19 = .ok (.aload_n 0, 1) := by decide +kernel
theorem dX11_part_20 : decode cX11_part 20 = .ok (.getfield 149, 3) := by decide +kernel
theorem dX11_part_23 : decode cX11_part 23 = .ok (.iconst 2, 1) := by decide +kernel
theorem dX11_part_24 : decode cX11_part 24 = .ok (.if_icmp .eq 9, 3) := by decide +kernel
theorem dX11_part_27 : decode cX11_part 27 = .ok (.aload_n 0, 1) := by decide +kernel
theorem dX11_part_28 : decode cX11_part 28 = .ok (.iload_n 1, 1) := by decide +kernel
theorem dX11_part_29 : decode cX11_part 29 = .ok (.invokevirtual 170, 3) := by decide +kernel
theorem dX11_part_32 : decode cX11_part 32 = .ok (.ireturn, 1) := by decide +kernel
theorem dX11_part_33 : decode cX11_part 33 = .ok (.aload_n 0, 1) := by decide +kernel
theorem dX11_part_34 : decode cX11_part 34 = .ok (.getfield 152, 3) := by decide +kernel
theorem dX11_part_37 : decode cX11_part 37 = .ok (.sipush 9999, 3) := by decide +kernel
theorem dX11_part_40 : decode cX11_part 40 = .ok (.if_icmp .le 5, 3) := by decide +kernel
theorem dX11_part_43 : decode cX11_part 43 = .ok (.iconst 0, 1) := by decide +kernel
theorem dX11_part_44 : decode cX11_part 44 = .ok (.ireturn, 1) := by decide +kernel
theorem dX11_part_45 : decode cX11_part 45 = .ok (.aload_n 0, 1) := by decide +kernel
theorem dX11_part_46 : decode cX11_part 46 = .ok (.dup, 1) := by decide +kernel
theorem dX11_part_47 : decode cX11_part 47 = .ok (.getfield 173, 3) := by decide +kernel
theorem dX11_part_50 : decode cX11_part 50 = .ok (.iload_n 1, 1) := by decide +kernel
theorem dX11_part_51 : decode cX11_part 51 = .ok (.aload_n 0, 1) := by decide +kernel
theorem dX11_part_52 : decode cX11_part 52 = .ok (.getfield 152, 3) := by decide +kernel
theorem dX11_part_55 : decode cX11_part 55 = .ok (.imul, 1) := by decide +kernel
theorem dX11_part_56 : decode cX11_part 56 = .ok (.iadd, 1) := by decide +kernel
theorem dX11_part_57 : decode cX11_part 57 = .ok (.putfield 173, 3) := by decide +kernel
theorem dX11_part_60 : decode cX11_part 60 = .ok (.aload_n 0, 1) := by decide +kernel
theorem dX11_part_61 : decode cX11_part 61 = .ok (.invokevirtual 163, 3) := by decide +kernel
theorem dX11_part_64 : decode cX11_part 64 = .ok (.iconst 1, 1) := by decide +kernel
theorem dX11_part_65 : decode cX11_part 65 = .ok (.ireturn, 1) := by decide +kernel
theorem dX11_whole_0 : decode cX11_whole 0 = .ok (.aload_n 0, 1) := by decide +kernel
theorem dX11_whole_1 : decode cX11_whole 1 = .ok (.iconst 1, 1) := by decide +kernel
theorem dX11_whole_2 : decode cX11_whole 2 = .ok (.invokevirtual 170, 3) := by decide +kernel
theorem dX11_whole_5 : decode cX11_whole 5 = .ok (.ifCond .eq 12, 3) := by decide +kernel
theorem dX11_whole_8 : decode cX11_whole 8 = .ok (.aload_n 0, 1) := by decide +kernel
theorem dX11_whole_9 : decode cX11_whole 9 = .ok (.bipush 61, 2) := by decide +kernel
theorem dX11_whole_11 : decode cX11_whole 11 = .ok (.invokevirtual 159, 3) := by decide +kernel
theorem dX11_whole_14 : decode cX11_whole 14 = .ok (.ifCond .ne 5, 3) := by decide +kernel
theorem dX11_whole_17 : decode cX11_whole 17 = .ok (.iconst 0, 1) := by decide +kernel
theorem dX11_whole_18 : decode cX11_whole 18 = .ok (.ireturn, 1) := by decide +kernel
theorem dX11_whole_19 : decode cX11_whole 19 = .ok (.aload_n 0, 1) := by decide +kernel
theorem dX11_whole_20 : decode cX11_whole 20 = .ok (.invokevirtual 163, 3) := by decide +kernel
theorem dX11_whole_23 : decode cX11_whole 23 = .ok (.aload_n 0, 1) := by decide +kernel
theorem dX11_whole_24 : decode cX11_whole 24 = .ok (.bipush 45, 2) := by decide +kernel
theorem dX11_whole_26 : decode cX11_whole 26 = .ok (.invokevirtual 159, 3) := by decide +kernel
theorem dX11_whole_29 : decode cX11_whole 29 = .ok (.istore_n 1, 1) := by decide +kernel
theorem dX11_whole_30 : decode cX11_whole 30 = .ok (.iload_n 1, 1) := by decide +kernel
theorem dX11_whole_31 : decode cX11_whole 31 = .ok (.ifCond .eq 7, 3) := by decide +kernel
theorem dX11_whole_34 : decode cX11_whole 34 = .ok (.aload_n 0, 1) := by decide +kernel
theorem dX11_whole_35 : decode cX11_whole 35 = .ok (.invokevirtual 163, 3) := by decide +kernel
theorem dX11_whole_38 : decode cX11_whole 38 = .ok (.aload_n 0, 1) := by decide +kernel
theorem dX11_whole_39 : decode cX11_whole 39 = .ok (.iload_n 1, 1) := by decide +kernel
theorem dX11_whole_40 : decode cX11_whole 40 = .ok (.ifCond .eq 7, 3) := by decide +kernel
theorem dX11_whole_43 : decode cX11_whole 43 = .ok (.iconst (-1), 1) := by decide +kernel
theorem dX11_whole_44 : decode cX11_whole 44 = .ok (.goto 4, 3) := by decide +kernel
theorem dX11_whole_47 : decode cX11_whole 47 = .ok (.iconst 1, 1) := by decide +kernel
theorem dX11_whole_48 : decode cX11_whole 48 = .ok (.invokevirtual 170, 3) := by decide +kernel
theorem dX11_whole_51 : decode cX11_whole 51 = .ok (.ifCond .ne 5, 3) := by decide +kernel
theorem dX11_whole_54 : decode cX11_whole 54 = .ok (.iconst 0, 1) := by decide +kernel
theorem dX11_whole_55 : decode cX11_whole 55 = .ok (.ireturn, 1) := by decide +kernel
theorem dX11_whole_56 : decode cX11_whole 56 = .ok (.aload_n 0, 1) := by decide +kernel
theorem dX11_whole_57 : decode cX11_whole 57 = .ok (.bipush 43, 2) := by decide +kernel
theorem dX11_whole_59 : decode cX11_whole 59 = .ok (.invokevirtual 159, 3) := by decide +kernel
theorem dX11_whole_62 : decode cX11_whole 62 = .ok (.ifCond .ne 12, 3) := by decide +kernel
theorem dX11_whole_65 : decode cX11_whole 65 = .ok (.aload_n 0, 1) := by decide +kernel
theorem dX11_whole_66 : decode cX11_whole 66 = .ok (.bipush 45, 2) := by decide +kernel
theorem dX11_whole_68 : decode cX11_whole 68 = .ok (.invokevirtual 159, 3) := by decide +kernel
theorem dX11_whole_71 : decode cX11_whole 71 = .ok (.ifCond .eq 12, 3) := by decide +kernel
theorem dX11_whole_74 : decode cX11_whole 74 = .ok (.aload_n 0, 1) := by decide +kernel
theorem dX11_whole_75 : decode cX11_whole 75 = .ok (.invokevirtual 176, 3) := by decide +kernel
theorem dX11_whole_78 : decode cX11_whole 78 = .ok (.ifCond .ne (-22), 3) := by decide +kernel
theorem dX11_whole_81 : decode cX11_whole 81 = .ok (.iconst 0, 1) := by decide +kernel
theorem dX11_whole_82 : decode cX11_whole 82 = .ok (.ireturn, 1) := by decide +kernel
theorem dX11_whole_83 : decode cX11_whole 83 = .ok (.aload_n 0, 1) := by decide +kernel
theorem dX11_whole_84 : decode cX11_whole 84 = .ok (.bipush 59, 2) := by decide +kernel
theorem dX11_whole_86 : decode cX11_whole 86 = .ok (.invokevirtual 159, 3) := by decide +kernel
theorem dX11_whole_89 : decode cX11_whole 89 = .ok (.ifCond .eq 11, 3) := by decide +kernel
theorem dX11_whole_92 : decode cX11_whole 92 = .ok (.aload_n 0, 1) := by decide +kernel
theorem dX11_whole_93 : decode cX11_whole 93 = .ok (.getfield 156, 3) := by decide +kernel
theorem dX11_whole_96 : decode cX11_whole 96 = .ok (.iconst 3, 1) := by decide +kernel
theorem dX11_whole_97 : decode cX11_whole 97 = .ok (.if_icmp .ge 5, 3) := by decide +kernel
theorem dX11_whole_100 : decode cX11_whole 100 = .ok (.iconst 0, 1) := by decide +kernel
theorem dX11_whole_101 : decode cX11_whole 101 = .ok (.ireturn, 1) := by decide +kernel
theorem dX11_whole_102 : decode cX11_whole 102 = .ok (.aload_n 0, 1) := by decide +kernel
theorem dX11_whole_103 : decode cX11_whole 103 = .ok (.invokevirtual 163, 3) := by decide +kernel
theorem dX11_whole_106 : decode cX11_whole 106 = .ok (.aload_n 0, 1) := by decide +kernel
theorem dX11_whole_107 : decode cX11_whole 107 = .ok (.getfield 149, 3) := by decide +kernel
theorem dX11_whole_110 : decode cX11_whole 110 = .ok (.ifCond .ne 7, 3) := by decide +kernel
theorem dX11_whole_113 : decode cX11_whole 113 = .ok (.iconst 1, 1) := by decide +kernel
theorem dX11_whole_114 : decode cX11_whole 114 = .ok (.goto 4, 3) := by decide +kernel
theorem dX11_whole_117 : decode cX11_whole 117 = .ok (.iconst 0, 1) := by decide +kernel
theorem dX11_whole_118 : decode cX11_whole 118 = .ok (.ireturn, 1) := by decide +kernel
theorem dX11_reads_0 : decode cX11_reads 0 = .ok (.aload_n 0, 1) := by decide +kernel
theorem dX11_reads_1 : decode cX11_reads 1 = .ok (.iconst 0, 1) := by decide +kernel
theorem dX11_reads_2 : decode cX11_reads 2 = .ok (.putfield 143, 3) := by decide +kernel
theorem dX11_reads_5 : decode cX11_reads 5 = .ok (.aload_n 0, 1) := by decide +kernel
theorem dX11_reads_6 : decode cX11_reads 6 = .ok (.iconst 0, 1) := by decide +kernel
theorem dX11_reads_7 : decode cX11_reads 7 = .ok (.putfield 156, 3) := by decide +kernel
theorem dX11_reads_10 : decode cX11_reads 10 = .ok (.aload_n 0, 1) := by decide +kernel
theorem dX11_reads_11 : decode cX11_reads 11 = .ok (.iconst 0, 1) := by decide +kernel
theorem dX11_reads_12 : decode cX11_reads 12 = .ok (.putfield 173, 3) := by decide +kernel
theorem dX11_reads_15 : decode cX11_reads 15 = .ok (.aload_n 0, 1) := by decide +kernel
theorem dX11_reads_16 : decode cX11_reads 16 = .ok (.invokevirtual 163, 3) := by decide +kernel
theorem dX11_reads_19 : decode cX11_reads 19 = .ok (.aload_n 0, 1) := by decide +kernel
theorem dX11_reads_20 : decode cX11_reads 20 = .ok (.invokevirtual 179, 3) := by decide +kernel
theorem dX11_reads_23 : decode cX11_reads 23 = .ok (.ifCond .eq 7, 3) := by decide +kernel
theorem dX11_reads_26 : decode cX11_reads 26 = .ok (.iconst (-1), 1) := by decide +kernel
theorem dX11_reads_27 : decode cX11_reads 27 = .ok (.goto 7, 3) := by decide +kernel
theorem dX11_reads_30 : decode cX11_reads 30 = .ok (.aload_n 0, 1) := by decide +kernel
theorem dX11_reads_31 : decode cX11_reads 31 = .ok (.getfield 146, 3) := by decide +kernel
theorem dX11_reads_34 : decode cX11_reads 34 = .ok (.ireturn, 1) := by decide +kernel
theorem dX11_fault_0 : decode cX11_fault 0 = .ok (.aload_n 0, 1) := by decide +kernel
theorem dX11_fault_1 : decode cX11_fault 1 = .ok (.invokevirtual 182, 3) := by decide +kernel
theorem dX11_fault_4 : decode cX11_fault 4 = .ok (.ireturn, 1) := by decide +kernel
theorem dX11_rule_0 : decode cX11_rule 0 = .ok (.aload_n 0, 1) := by decide +kernel
theorem dX11_rule_1 : decode cX11_rule 1 = .ok (.getfield 186, 3) := by decide +kernel
theorem dX11_rule_4 : decode cX11_rule 4 = .ok (.bipush 6, 2) := by decide +kernel
theorem dX11_rule_6 : decode cX11_rule 6 = .ok (.if_icmp .eq 11, 3) := by decide +kernel
theorem dX11_rule_9 : decode cX11_rule 9 = .ok (.aload_n 0, 1) := by decide +kernel
theorem dX11_rule_10 : decode cX11_rule 10 = .ok (.invokevirtual 182, 3) := by decide +kernel
theorem dX11_rule_13 : decode cX11_rule 13 = .ok (.iconst (-1), 1) := by decide +kernel
theorem dX11_rule_14 : decode cX11_rule 14 = .ok (.if_icmp .eq 5, 3) := by decide +kernel
theorem dX11_rule_17 : decode cX11_rule 17 = .ok (.iconst (-1), 1) := by decide +kernel
theorem dX11_rule_18 : decode cX11_rule 18 = .ok (.ireturn, 1) := by decide +kernel
theorem dX11_rule_19 : decode cX11_rule 19 = .ok (.aload_n 0, 1) := by decide +kernel
theorem dX11_rule_20 : decode cX11_rule 20 = .ok (.getfield 23, 3) := by decide +kernel
theorem dX11_rule_23 : decode cX11_rule 23 = .ok (.aload_n 0, 1) := by decide +kernel
theorem dX11_rule_24 : decode cX11_rule 24 = .ok (.getfield 186, 3) := by decide +kernel
theorem dX11_rule_27 : decode cX11_rule 27 = .ok (.aload_n 0, 1) := by decide +kernel
theorem dX11_rule_28 : decode cX11_rule 28 = .ok (.getfield 156, 3) := by decide +kernel
theorem dX11_rule_31 : decode cX11_rule 31 = .ok (.iastore, 1) := by decide +kernel
theorem dX11_rule_32 : decode cX11_rule 32 = .ok (.aload_n 0, 1) := by decide +kernel
theorem dX11_rule_33 : decode cX11_rule 33 = .ok (.getfield 26, 3) := by decide +kernel
theorem dX11_rule_36 : decode cX11_rule 36 = .ok (.aload_n 0, 1) := by decide +kernel
theorem dX11_rule_37 : decode cX11_rule 37 = .ok (.getfield 186, 3) := by decide +kernel
theorem dX11_rule_40 : decode cX11_rule 40 = .ok (.aload_n 0, 1) := by decide +kernel
theorem dX11_rule_41 : decode cX11_rule 41 = .ok (.getfield 173, 3) := by decide +kernel
theorem dX11_rule_44 : decode cX11_rule 44 = .ok (.iastore, 1) := by decide +kernel
theorem dX11_rule_45 : decode cX11_rule 45 = .ok (.iconst 0, 1) := by decide +kernel
theorem dX11_rule_46 : decode cX11_rule 46 = .ok (.istore_n 1, 1) := by decide +kernel
theorem dX11_rule_47 : decode cX11_rule 47 = .ok (.iload_n 1, 1) := by decide +kernel
theorem dX11_rule_48 : decode cX11_rule 48 = .ok (.aload_n 0, 1) := by decide +kernel
theorem dX11_rule_49 : decode cX11_rule 49 = .ok (.getfield 156, 3) := by decide +kernel
theorem dX11_rule_52 : decode cX11_rule 52 = .ok (.if_icmp .ge 47, 3) := by decide +kernel
theorem dX11_rule_55 : decode cX11_rule 55 = .ok (.aload_n 0, 1) := by decide +kernel
theorem dX11_rule_56 : decode cX11_rule 56 = .ok (.getfield 29, 3) := by decide +kernel
theorem dX11_rule_59 : decode cX11_rule 59 = .ok (.iconst 5, 1) := by decide +kernel
theorem dX11_rule_60 : decode cX11_rule 60 = .ok (.aload_n 0, 1) := by decide +kernel
theorem dX11_rule_61 : decode cX11_rule 61 = .ok (.getfield 186, 3) := by decide +kernel
theorem dX11_rule_64 : decode cX11_rule 64 = .ok (.imul, 1) := by decide +kernel
theorem dX11_rule_65 : decode cX11_rule 65 = .ok (.iload_n 1, 1) := by decide +kernel
theorem dX11_rule_66 : decode cX11_rule 66 = .ok (.iadd, 1) := by decide +kernel
theorem dX11_rule_67 : decode cX11_rule 67 = .ok (.aload_n 0, 1) := by decide +kernel
theorem dX11_rule_68 : decode cX11_rule 68 = .ok (.getfield 17, 3) := by decide +kernel
theorem dX11_rule_71 : decode cX11_rule 71 = .ok (.iload_n 1, 1) := by decide +kernel
theorem dX11_rule_72 : decode cX11_rule 72 = .ok (.iaload, 1) := by decide +kernel
theorem dX11_rule_73 : decode cX11_rule 73 = .ok (.iastore, 1) := by decide +kernel
theorem dX11_rule_74 : decode cX11_rule 74 = .ok (.aload_n 0, 1) := by decide +kernel
theorem dX11_rule_75 : decode cX11_rule 75 = .ok (.getfield 32, 3) := by decide +kernel
theorem dX11_rule_78 : decode cX11_rule 78 = .ok (.iconst 5, 1) := by decide +kernel
theorem dX11_rule_79 : decode cX11_rule 79 = .ok (.aload_n 0, 1) := by decide +kernel
theorem dX11_rule_80 : decode cX11_rule 80 = .ok (.getfield 186, 3) := by decide +kernel
theorem dX11_rule_83 : decode cX11_rule 83 = .ok (.imul, 1) := by decide +kernel
theorem dX11_rule_84 : decode cX11_rule 84 = .ok (.iload_n 1, 1) := by decide +kernel
theorem dX11_rule_85 : decode cX11_rule 85 = .ok (.iadd, 1) := by decide +kernel
theorem dX11_rule_86 : decode cX11_rule 86 = .ok (.aload_n 0, 1) := by decide +kernel
theorem dX11_rule_87 : decode cX11_rule 87 = .ok (.getfield 20, 3) := by decide +kernel
theorem dX11_rule_90 : decode cX11_rule 90 = .ok (.iload_n 1, 1) := by decide +kernel
theorem dX11_rule_91 : decode cX11_rule 91 = .ok (.iaload, 1) := by decide +kernel
theorem dX11_rule_92 : decode cX11_rule 92 = .ok (.iastore, 1) := by decide +kernel
theorem dX11_rule_93 : decode cX11_rule 93 = .ok (.iinc 1 1, 3) := by decide +kernel
theorem dX11_rule_96 : decode cX11_rule 96 = .ok (.goto (-49), 3) := by decide +kernel
theorem dX11_rule_99 : decode cX11_rule 99 = .ok (.aload_n 0, 1) := by decide +kernel
theorem dX11_rule_100 : decode cX11_rule 100 = .ok (.iconst 0, 1) := by decide +kernel
theorem dX11_rule_101 : decode cX11_rule 101 = .ok (.putfield 136, 3) := by decide +kernel
theorem dX11_rule_104 : decode cX11_rule 104 = .ok (.aload_n 0, 1) := by decide +kernel
theorem dX11_rule_105 : decode cX11_rule 105 = .ok (.dup, 1) := by decide +kernel
theorem dX11_rule_106 : decode cX11_rule 106 = .ok (.getfield 186, 3) := by decide +kernel
theorem dX11_rule_109 : decode cX11_rule 109 = .ok (.iconst 1, 1) := by decide +kernel
theorem dX11_rule_110 : decode cX11_rule 110 = .ok (.iadd, 1) := by decide +kernel
theorem dX11_rule_111 : decode cX11_rule 111 = .ok (.putfield 186, 3) := by decide +kernel
theorem dX11_rule_114 : decode cX11_rule 114 = .ok (.aload_n 0, 1) := by decide +kernel
theorem dX11_rule_115 : decode cX11_rule 115 = .ok (.getfield 186, 3) := by decide +kernel
theorem dX11_rule_118 : decode cX11_rule 118 = .ok (.iconst 1, 1) := by decide +kernel
theorem dX11_rule_119 : decode cX11_rule 119 = .ok (.isub, 1) := by decide +kernel
theorem dX11_rule_120 : decode cX11_rule 120 = .ok (.ireturn, 1) := by decide +kernel
theorem dX11_isTerm_0 : decode cX11_isTerm 0 = .ok (.iload_n 1, 1) := by decide +kernel
theorem dX11_isTerm_1 : decode cX11_isTerm 1 = .ok (.i2l, 1) := by decide +kernel
theorem dX11_isTerm_2 : decode cX11_isTerm 2 = .ok (.lconst 0, 1) := by decide +kernel
theorem dX11_isTerm_3 : decode cX11_isTerm 3 = .ok (.aload_n 0, 1) := by decide +kernel
theorem dX11_isTerm_4 : decode cX11_isTerm 4 = .ok (.getfield 186, 3) := by decide +kernel
theorem dX11_isTerm_7 : decode cX11_isTerm 7 = .ok (.iconst 1, 1) := by decide +kernel
theorem dX11_isTerm_8 : decode cX11_isTerm 8 = .ok (.isub, 1) := by decide +kernel
theorem dX11_isTerm_9 : decode cX11_isTerm 9 = .ok (.i2l, 1) := by decide +kernel
theorem dX11_isTerm_10 : decode cX11_isTerm 10 = .ok (.invokestatic 139, 3) := by decide +kernel
theorem dX11_isTerm_13 : decode cX11_isTerm 13 = .ok (.ifCond .eq 25, 3) := by decide +kernel
theorem dX11_isTerm_16 : decode cX11_isTerm 16 = .ok (.iload_n 2, 1) := by decide +kernel
theorem dX11_isTerm_17 : decode cX11_isTerm 17 = .ok (.i2l, 1) := by decide +kernel
theorem dX11_isTerm_18 : decode cX11_isTerm 18 = .ok (.lconst 0, 1) := by decide +kernel
theorem dX11_isTerm_19 : decode cX11_isTerm 19 = .ok (.aload_n 0, 1) := by decide +kernel
theorem dX11_isTerm_20 : decode cX11_isTerm 20 = .ok (.getfield 23, 3) := by decide +kernel
theorem dX11_isTerm_23 : decode cX11_isTerm 23 = .ok (.iload_n 1, 1) := by decide +kernel
theorem dX11_isTerm_24 : decode cX11_isTerm 24 = .ok (.iaload, 1) := by decide +kernel
theorem dX11_isTerm_25 : decode cX11_isTerm 25 = .ok (.iconst 1, 1) := by decide +kernel
theorem dX11_isTerm_26 : decode cX11_isTerm 26 = .ok (.isub, 1) := by decide +kernel
theorem dX11_isTerm_27 : decode cX11_isTerm 27 = .ok (.i2l, 1) := by decide +kernel
theorem dX11_isTerm_28 : decode cX11_isTerm 28 = .ok (.invokestatic 139, 3) := by decide +kernel
theorem dX11_isTerm_31 : decode cX11_isTerm 31 = .ok (.ifCond .eq 7, 3) := by decide +kernel
theorem dX11_isTerm_34 : decode cX11_isTerm 34 = .ok (.iconst 1, 1) := by decide +kernel
theorem dX11_isTerm_35 : decode cX11_isTerm 35 = .ok (.goto 4, 3) := by decide +kernel
theorem dX11_isTerm_38 : decode cX11_isTerm 38 = .ok (.iconst 0, 1) := by decide +kernel
theorem dX11_isTerm_39 : decode cX11_isTerm 39 = .ok (.ireturn, 1) := by decide +kernel
theorem dX11_told_0 : decode cX11_told 0 = .ok (.iload_n 1, 1) := by decide +kernel
theorem dX11_told_1 : decode cX11_told 1 = .ok (.i2l, 1) := by decide +kernel
theorem dX11_told_2 : decode cX11_told 2 = .ok (.lconst 0, 1) := by decide +kernel
theorem dX11_told_3 : decode cX11_told 3 = .ok (.aload_n 0, 1) := by decide +kernel
theorem dX11_told_4 : decode cX11_told 4 = .ok (.getfield 186, 3) := by decide +kernel
theorem dX11_told_7 : decode cX11_told 7 = .ok (.iconst 1, 1) := by decide +kernel
theorem dX11_told_8 : decode cX11_told 8 = .ok (.isub, 1) := by decide +kernel
theorem dX11_told_9 : decode cX11_told 9 = .ok (.i2l, 1) := by decide +kernel
theorem dX11_told_10 : decode cX11_told 10 = .ok (.invokestatic 139, 3) := by decide +kernel
theorem dX11_told_13 : decode cX11_told 13 = .ok (.ifCond .ne 6, 3) := by decide +kernel
theorem dX11_told_16 : decode cX11_told 16 = .ok (.ldc 189, 2) := by decide +kernel
theorem dX11_told_18 : decode cX11_told 18 = .ok (.ireturn, 1) := by decide +kernel
theorem dX11_told_19 : decode cX11_told 19 = .ok (.iload_n 2, 1) := by decide +kernel
theorem dX11_told_20 : decode cX11_told 20 = .ok (.ifCond .ne 10, 3) := by decide +kernel
theorem dX11_told_23 : decode cX11_told 23 = .ok (.aload_n 0, 1) := by decide +kernel
theorem dX11_told_24 : decode cX11_told 24 = .ok (.getfield 23, 3) := by decide +kernel
theorem dX11_told_27 : decode cX11_told 27 = .ok (.iload_n 1, 1) := by decide +kernel
theorem dX11_told_28 : decode cX11_told 28 = .ok (.iaload, 1) := by decide +kernel
theorem dX11_told_29 : decode cX11_told 29 = .ok (.ireturn, 1) := by decide +kernel
theorem dX11_told_30 : decode cX11_told 30 = .ok (.iload_n 2, 1) := by decide +kernel
theorem dX11_told_31 : decode cX11_told 31 = .ok (.iconst 1, 1) := by decide +kernel
theorem dX11_told_32 : decode cX11_told 32 = .ok (.if_icmp .ne 10, 3) := by decide +kernel
theorem dX11_told_35 : decode cX11_told 35 = .ok (.aload_n 0, 1) := by decide +kernel
theorem dX11_told_36 : decode cX11_told 36 = .ok (.getfield 26, 3) := by decide +kernel
theorem dX11_told_39 : decode cX11_told 39 = .ok (.iload_n 1, 1) := by decide +kernel
theorem dX11_told_40 : decode cX11_told 40 = .ok (.iaload, 1) := by decide +kernel
theorem dX11_told_41 : decode cX11_told 41 = .ok (.ireturn, 1) := by decide +kernel
theorem dX11_told_42 : decode cX11_told 42 = .ok (.iload_n 2, 1) := by decide +kernel
theorem dX11_told_43 : decode cX11_told 43 = .ok (.bipush 10, 2) := by decide +kernel
theorem dX11_told_45 : decode cX11_told 45 = .ok (.irem, 1) := by decide +kernel
theorem dX11_told_46 : decode cX11_told 46 = .ok (.istore_n 3, 1) := by decide +kernel
theorem dX11_told_47 : decode cX11_told 47 = .ok (.iload_n 2, 1) := by decide +kernel
theorem dX11_told_48 : decode cX11_told 48 = .ok (.i2l, 1) := by decide +kernel
theorem dX11_told_49 : decode cX11_told 49 = .ok (.ldc2_w 190, 3) := by decide +kernel
theorem dX11_told_52 : decode cX11_told 52 = .ok (.ldc2_w 192, 3) := by decide +kernel
theorem dX11_told_55 : decode cX11_told 55 = .ok (.invokestatic 139, 3) := by decide +kernel
theorem dX11_told_58 : decode cX11_told 58 = .ok (.ifCond .eq 12, 3) := by decide +kernel
theorem dX11_told_61 : decode cX11_told 61 = .ok (.aload_n 0, 1) := by decide +kernel
theorem dX11_told_62 : decode cX11_told 62 = .ok (.iload_n 1, 1) := by decide +kernel
theorem dX11_told_63 : decode cX11_told 63 = .ok (.iload_n 3, 1) := by decide +kernel
theorem dX11_told_64 : decode cX11_told 64 = .ok (.invokevirtual 194, 3) := by decide +kernel
theorem dX11_told_67 : decode cX11_told 67 = .ok (.ifCond .ne 6, 3) := by decide +kernel
theorem dX11_told_70 : decode cX11_told 70 = .ok (.ldc 189, 2) := by decide +kernel
theorem dX11_told_72 : decode cX11_told 72 = .ok (.ireturn, 1) := by decide +kernel
theorem dX11_told_73 : decode cX11_told 73 = .ok (.iload_n 2, 1) := by decide +kernel
theorem dX11_told_74 : decode cX11_told 74 = .ok (.bipush 20, 2) := by decide +kernel
theorem dX11_told_76 : decode cX11_told 76 = .ok (.if_icmp .ge 16, 3) := by decide +kernel
theorem dX11_told_79 : decode cX11_told 79 = .ok (.aload_n 0, 1) := by decide +kernel
theorem dX11_told_80 : decode cX11_told 80 = .ok (.getfield 29, 3) := by decide +kernel
theorem dX11_told_83 : decode cX11_told 83 = .ok (.iconst 5, 1) := by decide +kernel
theorem dX11_told_84 : decode cX11_told 84 = .ok (.iload_n 1, 1) := by decide +kernel
theorem dX11_told_85 : decode cX11_told 85 = .ok (.imul, 1) := by decide +kernel
theorem dX11_told_86 : decode cX11_told 86 = .ok (.iload_n 3, 1) := by decide +kernel
theorem dX11_told_87 : decode cX11_told 87 = .ok (.iadd, 1) := by decide +kernel
theorem dX11_told_88 : decode cX11_told 88 = .ok (.iaload, 1) := by decide +kernel
theorem dX11_told_89 : decode cX11_told 89 = .ok (.goto 13, 3) := by decide +kernel
theorem dX11_told_92 : decode cX11_told 92 = .ok (.aload_n 0, 1) := by decide +kernel
theorem dX11_told_93 : decode cX11_told 93 = .ok (.getfield 32, 3) := by decide +kernel
theorem dX11_told_96 : decode cX11_told 96 = .ok (.iconst 5, 1) := by decide +kernel
theorem dX11_told_97 : decode cX11_told 97 = .ok (.iload_n 1, 1) := by decide +kernel
theorem dX11_told_98 : decode cX11_told 98 = .ok (.imul, 1) := by decide +kernel
theorem dX11_told_99 : decode cX11_told 99 = .ok (.iload_n 3, 1) := by decide +kernel
theorem dX11_told_100 : decode cX11_told 100 = .ok (.iadd, 1) := by decide +kernel
theorem dX11_told_101 : decode cX11_told 101 = .ok (.iaload, 1) := by decide +kernel
theorem dX11_told_102 : decode cX11_told 102 = .ok (.ireturn, 1) := by decide +kernel
theorem dX11_range_0 : decode cX11_range 0 = .ok (.aload_n 0, 1) := by decide +kernel
theorem dX11_range_1 : decode cX11_range 1 = .ok (.iload_n 1, 1) := by decide +kernel
theorem dX11_range_2 : decode cX11_range 2 = .ok (.iload_n 2, 1) := by decide +kernel
theorem dX11_range_3 : decode cX11_range 3 = .ok (.invokevirtual 194, 3) := by decide +kernel
theorem dX11_range_6 : decode cX11_range 6 = .ok (.ifCond .eq 44, 3) := by decide +kernel
theorem dX11_range_9 : decode cX11_range 9 = .ok (.aload_n 0, 1) := by decide +kernel
theorem dX11_range_10 : decode cX11_range 10 = .ok (.getfield 35, 3) := by decide +kernel
theorem dX11_range_13 : decode cX11_range 13 = .ok (.iconst 5, 1) := by decide +kernel
theorem dX11_range_14 : decode cX11_range 14 = .ok (.iload_n 1, 1) := by decide +kernel
theorem dX11_range_15 : decode cX11_range 15 = .ok (.imul, 1) := by decide +kernel
theorem dX11_range_16 : decode cX11_range 16 = .ok (.iload_n 2, 1) := by decide +kernel
theorem dX11_range_17 : decode cX11_range 17 = .ok (.iadd, 1) := by decide +kernel
theorem dX11_range_18 : decode cX11_range 18 = .ok (.iaload, 1) := by decide +kernel
theorem dX11_range_19 : decode cX11_range 19 = .ok (.ifCond .gt 31, 3) := by decide +kernel
theorem dX11_range_22 : decode cX11_range 22 = .ok (.iload 4, 2) := by decide +kernel
theorem dX11_range_24 : decode cX11_range 24 = .ok (.i2l, 1) := by decide +kernel
theorem dX11_range_25 : decode cX11_range 25 = .ok (.lconst 1, 1) := by decide +kernel
theorem dX11_range_26 : decode cX11_range 26 = .ok (.ldc2_w 198, 3) := by decide +kernel
theorem dX11_range_29 : decode cX11_range 29 = .ok (.invokestatic 139, 3) := by decide +kernel
theorem dX11_range_32 : decode cX11_range 32 = .ok (.ifCond .eq 18, 3) := by decide +kernel
theorem dX11_range_35 : decode cX11_range 35 = .ok (.iload 5, 2) := by decide +kernel
theorem dX11_range_37 : decode cX11_range 37 = .ok (.i2l, 1) := by decide +kernel
theorem dX11_range_38 : decode cX11_range 38 = .ok (.ldc2_w 130, 3) := by decide +kernel
theorem dX11_range_41 : decode cX11_range 41 = .ok (.ldc2_w 200, 3) := by decide +kernel
theorem dX11_range_44 : decode cX11_range 44 = .ok (.invokestatic 139, 3) := by decide +kernel
theorem dX11_range_47 : decode cX11_range 47 = .ok (.ifCond .ne 5, 3) := by decide +kernel
theorem dX11_range_50 : decode cX11_range 50 = .ok (.iconst (-1), 1) := by decide +kernel
theorem dX11_range_51 : decode cX11_range 51 = .ok (.ireturn, 1) := by decide +kernel
theorem dX11_range_52 : decode cX11_range 52 = .ok (.aload_n 0, 1) := by decide +kernel
theorem dX11_range_53 : decode cX11_range 53 = .ok (.getfield 29, 3) := by decide +kernel
theorem dX11_range_56 : decode cX11_range 56 = .ok (.iconst 5, 1) := by decide +kernel
theorem dX11_range_57 : decode cX11_range 57 = .ok (.iload_n 1, 1) := by decide +kernel
theorem dX11_range_58 : decode cX11_range 58 = .ok (.imul, 1) := by decide +kernel
theorem dX11_range_59 : decode cX11_range 59 = .ok (.iload_n 2, 1) := by decide +kernel
theorem dX11_range_60 : decode cX11_range 60 = .ok (.iadd, 1) := by decide +kernel
theorem dX11_range_61 : decode cX11_range 61 = .ok (.iaload, 1) := by decide +kernel
theorem dX11_range_62 : decode cX11_range 62 = .ok (.istore 6, 2) := by decide +kernel
theorem dX11_range_64 : decode cX11_range 64 = .ok (.iload_n 3, 1) := by decide +kernel
theorem dX11_range_65 : decode cX11_range 65 = .ok (.i2l, 1) := by decide +kernel
theorem dX11_range_66 : decode cX11_range 66 = .ok (.iload 4, 2) := by decide +kernel
theorem dX11_range_68 : decode cX11_range 68 = .ok (.i2l, 1) := by decide +kernel
theorem dX11_range_69 : decode cX11_range 69 = .ok (.iload 5, 2) := by decide +kernel
theorem dX11_range_71 : decode cX11_range 71 = .ok (.iconst 1, 1) := by decide +kernel
theorem dX11_range_72 : decode cX11_range 72 = .ok (.isub, 1) := by decide +kernel
theorem dX11_range_73 : decode cX11_range 73 = .ok (.i2l, 1) := by decide +kernel
theorem dX11_range_74 : decode cX11_range 74 = .ok (.lmul, 1) := by decide +kernel
theorem dX11_range_75 : decode cX11_range 75 = .ok (.ladd, 1) := by decide +kernel
theorem dX11_range_76 : decode cX11_range 76 = .ok (.lstore 7, 2) := by decide +kernel
theorem dX11_range_78 : decode cX11_range 78 = .ok (.iload 6, 2) := by decide +kernel
theorem dX11_range_80 : decode cX11_range 80 = .ok (.ifCond .ne 9, 3) := by decide +kernel
theorem dX11_range_83 : decode cX11_range 83 = .ok (.sipush (-999), 3) := by decide +kernel
theorem dX11_range_86 : decode cX11_range 86 = .ok (.goto 14, 3) := by decide +kernel
theorem dX11_range_89 : decode cX11_range 89 = .ok (.iload 6, 2) := by decide +kernel
theorem dX11_range_91 : decode cX11_range 91 = .ok (.iconst 1, 1) := by decide +kernel
theorem dX11_range_92 : decode cX11_range 92 = .ok (.if_icmp .ne 7, 3) := by decide +kernel
theorem dX11_range_95 : decode cX11_range 95 = .ok (.iconst 0, 1) := by decide +kernel
theorem dX11_range_96 : decode cX11_range 96 = .ok (.goto 4, 3) := by decide +kernel
theorem dX11_range_99 : decode cX11_range 99 = .ok (.iconst 1, 1) := by decide +kernel
theorem dX11_range_100 : decode cX11_range 100 = .ok (.istore 9, 2) := by decide +kernel
theorem dX11_range_102 : decode cX11_range 102 = .ok (.iload 6, 2) := by decide +kernel
theorem dX11_range_104 : decode cX11_range 104 = .ok (.iconst 1, 1) := by decide +kernel
theorem dX11_range_105 : decode cX11_range 105 = .ok (.if_icmp .ne 8, 3) := by decide +kernel
theorem dX11_range_108 : decode cX11_range 108 = .ok (.bipush 99, 2) := by decide +kernel
theorem dX11_range_110 : decode cX11_range 110 = .ok (.goto 6, 3) := by decide +kernel
theorem dX11_range_113 : decode cX11_range 113 = .ok (.sipush 999, 3) := by decide +kernel
theorem dX11_range_116 : decode cX11_range 116 = .ok (.istore 10, 2) := by decide +kernel
theorem dX11_range_118 : decode cX11_range 118 = .ok (.iload_n 3, 1) := by decide +kernel
theorem dX11_range_119 : decode cX11_range 119 = .ok (.iload 9, 2) := by decide +kernel
theorem dX11_range_121 : decode cX11_range 121 = .ok (.if_icmp .lt 12, 3) := by decide +kernel
theorem dX11_range_124 : decode cX11_range 124 = .ok (.lload 7, 2) := by decide +kernel
theorem dX11_range_126 : decode cX11_range 126 = .ok (.iload 10, 2) := by decide +kernel
theorem dX11_range_128 : decode cX11_range 128 = .ok (.i2l, 1) := by decide +kernel
theorem dX11_range_129 : decode cX11_range 129 = .ok (.lcmp, 1) := by decide +kernel
theorem dX11_range_130 : decode cX11_range 130 = .ok (.ifCond .le 5, 3) := by decide +kernel
theorem dX11_range_133 : decode cX11_range 133 = .ok (.iconst (-1), 1) := by decide +kernel
theorem dX11_range_134 : decode cX11_range 134 = .ok (.ireturn, 1) := by decide +kernel
theorem dX11_range_135 : decode cX11_range 135 = .ok (.iconst 0, 1) := by decide +kernel
theorem dX11_range_136 : decode cX11_range 136 = .ok (.istore 11, 2) := by decide +kernel
theorem dX11_range_138 : decode cX11_range 138 = .ok (.iload 11, 2) := by decide +kernel
theorem dX11_range_140 : decode cX11_range 140 = .ok (.iload 5, 2) := by decide +kernel
theorem dX11_range_142 : decode cX11_range 142 = .ok (.if_icmp .ge 68, 3) := by decide +kernel
theorem dX11_range_145 : decode cX11_range 145 = .ok (.iload_n 3, 1) := by decide +kernel
theorem dX11_range_146 : decode cX11_range 146 = .ok (.iload 11, 2) := by decide +kernel
theorem dX11_range_148 : decode cX11_range 148 = .ok (.iload 4, 2) := by decide +kernel
theorem dX11_range_150 : decode cX11_range 150 = .ok (.imul, 1) := by decide +kernel
theorem dX11_range_151 : decode cX11_range 151 = .ok (.iadd, 1) := by decide +kernel
theorem dX11_range_152 : decode cX11_range 152 = .ok (.istore 12, 2) := by decide +kernel
theorem dX11_range_154 : decode cX11_range 154 = .ok (.aload_n 0, 1) := by decide +kernel
theorem dX11_range_155 : decode cX11_range 155 = .ok (.getfield 38, 3) := by decide +kernel
theorem dX11_range_158 : decode cX11_range 158 = .ok (.bipush 40, 2) := by decide +kernel
theorem dX11_range_160 : decode cX11_range 160 = .ok (.iconst 5, 1) := by decide +kernel
theorem dX11_range_161 : decode cX11_range 161 = .ok (.iload_n 1, 1) := by decide +kernel
theorem dX11_range_162 : decode cX11_range 162 = .ok (.imul, 1) := by decide +kernel
theorem dX11_range_163 : decode cX11_range 163 = .ok (.iload_n 2, 1) := by decide +kernel
theorem dX11_range_164 : decode cX11_range 164 = .ok (.iadd, 1) := by decide +kernel
theorem dX11_range_165 : decode cX11_range 165 = .ok (.imul, 1) := by decide +kernel
theorem dX11_range_166 : decode cX11_range 166 = .ok (.iload 11, 2) := by decide +kernel
theorem dX11_range_168 : decode cX11_range 168 = .ok (.iadd, 1) := by decide +kernel
theorem dX11_range_169 : decode cX11_range 169 = .ok (.iload 6, 2) := by decide +kernel
theorem dX11_range_171 : decode cX11_range 171 = .ok (.ifCond .ne 8, 3) := by decide +kernel
theorem dX11_range_174 : decode cX11_range 174 = .ok (.iload 12, 2) := by decide +kernel
theorem dX11_range_176 : decode cX11_range 176 = .ok (.goto 27, 3) := by decide +kernel
theorem dX11_range_179 : decode cX11_range 179 = .ok (.iload 6, 2) := by decide +kernel
theorem dX11_range_181 : decode cX11_range 181 = .ok (.iconst 1, 1) := by decide +kernel
theorem dX11_range_182 : decode cX11_range 182 = .ok (.if_icmp .ne 11, 3) := by decide +kernel
theorem dX11_range_185 : decode cX11_range 185 = .ok (.iload 12, 2) := by decide +kernel
theorem dX11_range_187 : decode cX11_range 187 = .ok (.iload 12, 2) := by decide +kernel
theorem dX11_range_189 : decode cX11_range 189 = .ok (.imul, 1) := by decide +kernel
theorem dX11_range_190 : decode cX11_range 190 = .ok (.goto 13, 3) := by decide +kernel
theorem dX11_range_193 : decode cX11_range 193 = .ok (.ldc2_w 202, 3) := by decide +kernel
theorem dX11_range_196 : decode cX11_range 196 = .ok (.iload 12, 2) := by decide +kernel
theorem dX11_range_198 : decode cX11_range 198 = .ok (.i2l, 1) := by decide +kernel
theorem dX11_range_199 : decode cX11_range 199 = .ok (.invokestatic 204, 3) := by decide +kernel
theorem dX11_range_202 : decode cX11_range 202 = .ok (.l2i, 1) := by decide +kernel
theorem dX11_range_203 : decode cX11_range 203 = .ok (.iastore, 1) := by decide +kernel
theorem dX11_range_204 : decode cX11_range 204 = .ok (.iinc 11 1, 3) := by decide +kernel
theorem dX11_range_207 : decode cX11_range 207 = .ok (.goto (-69), 3) := by decide +kernel
theorem dX11_range_210 : decode cX11_range 210 = .ok (.aload_n 0, 1) := by decide +kernel
theorem dX11_range_211 : decode cX11_range 211 = .ok (.getfield 35, 3) := by decide +kernel
theorem dX11_range_214 : decode cX11_range 214 = .ok (.iconst 5, 1) := by decide +kernel
theorem dX11_range_215 : decode cX11_range 215 = .ok (.iload_n 1, 1) := by decide +kernel
theorem dX11_range_216 : decode cX11_range 216 = .ok (.imul, 1) := by decide +kernel
theorem dX11_range_217 : decode cX11_range 217 = .ok (.iload_n 2, 1) := by decide +kernel
theorem dX11_range_218 : decode cX11_range 218 = .ok (.iadd, 1) := by decide +kernel
theorem dX11_range_219 : decode cX11_range 219 = .ok (.iload 5, 2) := by decide +kernel
theorem dX11_range_221 : decode cX11_range 221 = .ok (.iastore, 1) := by decide +kernel
theorem dX11_range_222 : decode cX11_range 222 = .ok (.iload 5, 2) := by decide +kernel
theorem dX11_range_224 : decode cX11_range 224 = .ok (.ireturn, 1) := by decide +kernel
theorem dX11_valueOf_0 : decode cX11_valueOf 0 = .ok (.aload_n 0, 1) := by decide +kernel
theorem dX11_valueOf_1 : decode cX11_valueOf 1 = .ok (.getfield 38, 3) := by decide +kernel
theorem dX11_valueOf_4 : decode cX11_valueOf 4 = .ok (.bipush 40, 2) := by decide +kernel
theorem dX11_valueOf_6 : decode cX11_valueOf 6 = .ok (.iconst 5, 1) := by decide +kernel
theorem dX11_valueOf_7 : decode cX11_valueOf 7 = .ok (.iload_n 1, 1) := by decide +kernel
theorem dX11_valueOf_8 : decode cX11_valueOf 8 = .ok (.imul, 1) := by decide +kernel
theorem dX11_valueOf_9 : decode cX11_valueOf 9 = .ok (.iload_n 2, 1) := by decide +kernel
theorem dX11_valueOf_10 : decode cX11_valueOf 10 = .ok (.iadd, 1) := by decide +kernel
theorem dX11_valueOf_11 : decode cX11_valueOf 11 = .ok (.imul, 1) := by decide +kernel
theorem dX11_valueOf_12 : decode cX11_valueOf 12 = .ok (.iload_n 3, 1) := by decide +kernel
theorem dX11_valueOf_13 : decode cX11_valueOf 13 = .ok (.iadd, 1) := by decide +kernel
theorem dX11_valueOf_14 : decode cX11_valueOf 14 = .ok (.iaload, 1) := by decide +kernel
theorem dX11_valueOf_15 : decode cX11_valueOf 15 = .ok (.ireturn, 1) := by decide +kernel
theorem dX11_mark_0 : decode cX11_mark 0 = .ok (.aload_n 0, 1) := by decide +kernel
theorem dX11_mark_1 : decode cX11_mark 1 = .ok (.iload_n 1, 1) := by decide +kernel
theorem dX11_mark_2 : decode cX11_mark 2 = .ok (.iload_n 2, 1) := by decide +kernel
theorem dX11_mark_3 : decode cX11_mark 3 = .ok (.invokevirtual 194, 3) := by decide +kernel
theorem dX11_mark_6 : decode cX11_mark 6 = .ok (.ifCond .eq 35, 3) := by decide +kernel
theorem dX11_mark_9 : decode cX11_mark 9 = .ok (.iload_n 3, 1) := by decide +kernel
theorem dX11_mark_10 : decode cX11_mark 10 = .ok (.i2l, 1) := by decide +kernel
theorem dX11_mark_11 : decode cX11_mark 11 = .ok (.lconst 0, 1) := by decide +kernel
theorem dX11_mark_12 : decode cX11_mark 12 = .ok (.aload_n 0, 1) := by decide +kernel
theorem dX11_mark_13 : decode cX11_mark 13 = .ok (.getfield 35, 3) := by decide +kernel
theorem dX11_mark_16 : decode cX11_mark 16 = .ok (.iconst 5, 1) := by decide +kernel
theorem dX11_mark_17 : decode cX11_mark 17 = .ok (.iload_n 1, 1) := by decide +kernel
theorem dX11_mark_18 : decode cX11_mark 18 = .ok (.imul, 1) := by decide +kernel
theorem dX11_mark_19 : decode cX11_mark 19 = .ok (.iload_n 2, 1) := by decide +kernel
theorem dX11_mark_20 : decode cX11_mark 20 = .ok (.iadd, 1) := by decide +kernel
theorem dX11_mark_21 : decode cX11_mark 21 = .ok (.iaload, 1) := by decide +kernel
theorem dX11_mark_22 : decode cX11_mark 22 = .ok (.iconst 1, 1) := by decide +kernel
theorem dX11_mark_23 : decode cX11_mark 23 = .ok (.isub, 1) := by decide +kernel
theorem dX11_mark_24 : decode cX11_mark 24 = .ok (.i2l, 1) := by decide +kernel
theorem dX11_mark_25 : decode cX11_mark 25 = .ok (.invokestatic 139, 3) := by decide +kernel
theorem dX11_mark_28 : decode cX11_mark 28 = .ok (.ifCond .eq 13, 3) := by decide +kernel
theorem dX11_mark_31 : decode cX11_mark 31 = .ok (.aload_n 0, 1) := by decide +kernel
theorem dX11_mark_32 : decode cX11_mark 32 = .ok (.iload_n 1, 1) := by decide +kernel
theorem dX11_mark_33 : decode cX11_mark 33 = .ok (.iload_n 2, 1) := by decide +kernel
theorem dX11_mark_34 : decode cX11_mark 34 = .ok (.iload_n 3, 1) := by decide +kernel
theorem dX11_mark_35 : decode cX11_mark 35 = .ok (.invokevirtual 207, 3) := by decide +kernel
theorem dX11_mark_38 : decode cX11_mark 38 = .ok (.goto 5, 3) := by decide +kernel
theorem dX11_mark_41 : decode cX11_mark 41 = .ok (.ldc 189, 2) := by decide +kernel
theorem dX11_mark_43 : decode cX11_mark 43 = .ok (.ireturn, 1) := by decide +kernel
theorem dX11_isChart_0 : decode cX11_isChart 0 = .ok (.iload_n 1, 1) := by decide +kernel
theorem dX11_isChart_1 : decode cX11_isChart 1 = .ok (.i2l, 1) := by decide +kernel
theorem dX11_isChart_2 : decode cX11_isChart 2 = .ok (.lconst 0, 1) := by decide +kernel
theorem dX11_isChart_3 : decode cX11_isChart 3 = .ok (.aload_n 0, 1) := by decide +kernel
theorem dX11_isChart_4 : decode cX11_isChart 4 = .ok (.getfield 211, 3) := by decide +kernel
theorem dX11_isChart_7 : decode cX11_isChart 7 = .ok (.iconst 1, 1) := by decide +kernel
theorem dX11_isChart_8 : decode cX11_isChart 8 = .ok (.isub, 1) := by decide +kernel
theorem dX11_isChart_9 : decode cX11_isChart 9 = .ok (.i2l, 1) := by decide +kernel
theorem dX11_isChart_10 : decode cX11_isChart 10 = .ok (.invokestatic 139, 3) := by decide +kernel
theorem dX11_isChart_13 : decode cX11_isChart 13 = .ok (.ireturn, 1) := by decide +kernel
theorem dX11_pagesOf_0 : decode cX11_pagesOf 0 = .ok (.aload_n 0, 1) := by decide +kernel
theorem dX11_pagesOf_1 : decode cX11_pagesOf 1 = .ok (.getfield 23, 3) := by decide +kernel
theorem dX11_pagesOf_4 : decode cX11_pagesOf 4 = .ok (.aload_n 0, 1) := by decide +kernel
theorem dX11_pagesOf_5 : decode cX11_pagesOf 5 = .ok (.getfield 41, 3) := by decide +kernel
theorem dX11_pagesOf_8 : decode cX11_pagesOf 8 = .ok (.iload_n 1, 1) := by decide +kernel
theorem dX11_pagesOf_9 : decode cX11_pagesOf 9 = .ok (.iaload, 1) := by decide +kernel
theorem dX11_pagesOf_10 : decode cX11_pagesOf 10 = .ok (.iaload, 1) := by decide +kernel
theorem dX11_pagesOf_11 : decode cX11_pagesOf 11 = .ok (.iconst 2, 1) := by decide +kernel
theorem dX11_pagesOf_12 : decode cX11_pagesOf 12 = .ok (.isub, 1) := by decide +kernel
theorem dX11_pagesOf_13 : decode cX11_pagesOf 13 = .ok (.ireturn, 1) := by decide +kernel
theorem dX11_isModulus_0 : decode cX11_isModulus 0 = .ok (.iload_n 0, 1) := by decide +kernel
theorem dX11_isModulus_1 : decode cX11_isModulus 1 = .ok (.ifCond .lt 37, 3) := by decide +kernel
theorem dX11_isModulus_4 : decode cX11_isModulus 4 = .ok (.iload_n 0, 1) := by decide +kernel
theorem dX11_isModulus_5 : decode cX11_isModulus 5 = .ok (.bipush 100, 2) := by decide +kernel
theorem dX11_isModulus_7 : decode cX11_isModulus 7 = .ok (.idiv, 1) := by decide +kernel
theorem dX11_isModulus_8 : decode cX11_isModulus 8 = .ok (.i2l, 1) := by decide +kernel
theorem dX11_isModulus_9 : decode cX11_isModulus 9 = .ok (.lconst 1, 1) := by decide +kernel
theorem dX11_isModulus_10 : decode cX11_isModulus 10 = .ok (.ldc2_w 214, 3) := by decide +kernel
theorem dX11_isModulus_13 : decode cX11_isModulus 13 = .ok (.invokestatic 139, 3) := by decide +kernel
theorem dX11_isModulus_16 : decode cX11_isModulus 16 = .ok (.ifCond .eq 22, 3) := by decide +kernel
theorem dX11_isModulus_19 : decode cX11_isModulus 19 = .ok (.iload_n 0, 1) := by decide +kernel
theorem dX11_isModulus_20 : decode cX11_isModulus 20 = .ok (.bipush 100, 2) := by decide +kernel
theorem dX11_isModulus_22 : decode cX11_isModulus 22 = .ok (.irem, 1) := by decide +kernel
theorem dX11_isModulus_23 : decode cX11_isModulus 23 = .ok (.i2l, 1) := by decide +kernel
theorem dX11_isModulus_24 : decode cX11_isModulus 24 = .ok (.lconst 1, 1) := by decide +kernel
theorem dX11_isModulus_25 : decode cX11_isModulus 25 = .ok (.ldc2_w 214, 3) := by decide +kernel
theorem dX11_isModulus_28 : decode cX11_isModulus 28 = .ok (.invokestatic 139, 3) := by decide +kernel
theorem dX11_isModulus_31 : decode cX11_isModulus 31 = .ok (.ifCond .eq 7, 3) := by decide +kernel
theorem dX11_isModulus_34 : decode cX11_isModulus 34 = .ok (.iconst 1, 1) := by decide +kernel
theorem dX11_isModulus_35 : decode cX11_isModulus 35 = .ok (.goto 4, 3) := by decide +kernel
theorem dX11_isModulus_38 : decode cX11_isModulus 38 = .ok (.iconst 0, 1) := by decide +kernel
theorem dX11_isModulus_39 : decode cX11_isModulus 39 = .ok (.ireturn, 1) := by decide +kernel
theorem dX11_chart_0 : decode cX11_chart 0 = .ok (.iload_n 1, 1) := by decide +kernel
theorem dX11_chart_1 : decode cX11_chart 1 = .ok (.i2l, 1) := by decide +kernel
theorem dX11_chart_2 : decode cX11_chart 2 = .ok (.lconst 0, 1) := by decide +kernel
theorem dX11_chart_3 : decode cX11_chart 3 = .ok (.aload_n 0, 1) := by decide +kernel
theorem dX11_chart_4 : decode cX11_chart 4 = .ok (.getfield 186, 3) := by decide +kernel
theorem dX11_chart_7 : decode cX11_chart 7 = .ok (.iconst 1, 1) := by decide +kernel
theorem dX11_chart_8 : decode cX11_chart 8 = .ok (.isub, 1) := by decide +kernel
theorem dX11_chart_9 : decode cX11_chart 9 = .ok (.i2l, 1) := by decide +kernel
theorem dX11_chart_10 : decode cX11_chart 10 = .ok (.invokestatic 139, 3) := by decide +kernel
theorem dX11_chart_13 : decode cX11_chart 13 = .ok (.ifCond .eq 30, 3) := by decide +kernel
theorem dX11_chart_16 : decode cX11_chart 16 = .ok (.iload_n 2, 1) := by decide +kernel
theorem dX11_chart_17 : decode cX11_chart 17 = .ok (.ifCond .lt 26, 3) := by decide +kernel
theorem dX11_chart_20 : decode cX11_chart 20 = .ok (.iload_n 3, 1) := by decide +kernel
theorem dX11_chart_21 : decode cX11_chart 21 = .ok (.i2l, 1) := by decide +kernel
theorem dX11_chart_22 : decode cX11_chart 22 = .ok (.ldc2_w 190, 3) := by decide +kernel
theorem dX11_chart_25 : decode cX11_chart 25 = .ok (.ldc2_w 216, 3) := by decide +kernel
theorem dX11_chart_28 : decode cX11_chart 28 = .ok (.invokestatic 139, 3) := by decide +kernel
theorem dX11_chart_31 : decode cX11_chart 31 = .ok (.ifCond .eq 12, 3) := by decide +kernel
theorem dX11_chart_34 : decode cX11_chart 34 = .ok (.aload_n 0, 1) := by decide +kernel
theorem dX11_chart_35 : decode cX11_chart 35 = .ok (.getfield 211, 3) := by decide +kernel
theorem dX11_chart_38 : decode cX11_chart 38 = .ok (.bipush 6, 2) := by decide +kernel
theorem dX11_chart_40 : decode cX11_chart 40 = .ok (.if_icmp .ne 5, 3) := by decide +kernel
theorem dX11_chart_43 : decode cX11_chart 43 = .ok (.iconst (-1), 1) := by decide +kernel
theorem dX11_chart_44 : decode cX11_chart 44 = .ok (.ireturn, 1) := by decide +kernel
theorem dX11_chart_45 : decode cX11_chart 45 = .ok (.aload_n 0, 1) := by decide +kernel
theorem dX11_chart_46 : decode cX11_chart 46 = .ok (.getfield 23, 3) := by decide +kernel
theorem dX11_chart_49 : decode cX11_chart 49 = .ok (.iload_n 1, 1) := by decide +kernel
theorem dX11_chart_50 : decode cX11_chart 50 = .ok (.iaload, 1) := by decide +kernel
theorem dX11_chart_51 : decode cX11_chart 51 = .ok (.iconst 1, 1) := by decide +kernel
theorem dX11_chart_52 : decode cX11_chart 52 = .ok (.isub, 1) := by decide +kernel
theorem dX11_chart_53 : decode cX11_chart 53 = .ok (.istore 7, 2) := by decide +kernel
theorem dX11_chart_55 : decode cX11_chart 55 = .ok (.iload_n 2, 1) := by decide +kernel
theorem dX11_chart_56 : decode cX11_chart 56 = .ok (.istore 8, 2) := by decide +kernel
theorem dX11_chart_58 : decode cX11_chart 58 = .ok (.iconst 0, 1) := by decide +kernel
theorem dX11_chart_59 : decode cX11_chart 59 = .ok (.istore 9, 2) := by decide +kernel
theorem dX11_chart_61 : decode cX11_chart 61 = .ok (.iload 7, 2) := by decide +kernel
theorem dX11_chart_63 : decode cX11_chart 63 = .ok (.iconst 1, 1) := by decide +kernel
theorem dX11_chart_64 : decode cX11_chart 64 = .ok (.isub, 1) := by decide +kernel
theorem dX11_chart_65 : decode cX11_chart 65 = .ok (.istore 10, 2) := by decide +kernel
theorem dX11_chart_67 : decode cX11_chart 67 = .ok (.iload 10, 2) := by decide +kernel
theorem dX11_chart_69 : decode cX11_chart 69 = .ok (.ifCond .lt 74, 3) := by decide +kernel
theorem dX11_chart_72 : decode cX11_chart 72 = .ok (.iload 8, 2) := by decide +kernel
theorem dX11_chart_74 : decode cX11_chart 74 = .ok (.bipush 10, 2) := by decide +kernel
theorem dX11_chart_76 : decode cX11_chart 76 = .ok (.irem, 1) := by decide +kernel
theorem dX11_chart_77 : decode cX11_chart 77 = .ok (.istore 11, 2) := by decide +kernel
theorem dX11_chart_79 : decode cX11_chart 79 = .ok (.iload 8, 2) := by decide +kernel
theorem dX11_chart_81 : decode cX11_chart 81 = .ok (.bipush 10, 2) := by decide +kernel
theorem dX11_chart_83 : decode cX11_chart 83 = .ok (.idiv, 1) := by decide +kernel
theorem dX11_chart_84 : decode cX11_chart 84 = .ok (.istore 8, 2) := by decide +kernel
theorem dX11_chart_86 : decode cX11_chart 86 = .ok (.iload 11, 2) := by decide +kernel
theorem dX11_chart_88 : decode cX11_chart 88 = .ok (.i2l, 1) := by decide +kernel
theorem dX11_chart_89 : decode cX11_chart 89 = .ok (.lconst 1, 1) := by decide +kernel
theorem dX11_chart_90 : decode cX11_chart 90 = .ok (.iload 7, 2) := by decide +kernel
theorem dX11_chart_92 : decode cX11_chart 92 = .ok (.i2l, 1) := by decide +kernel
theorem dX11_chart_93 : decode cX11_chart 93 = .ok (.invokestatic 139, 3) := by decide +kernel
theorem dX11_chart_96 : decode cX11_chart 96 = .ok (.ifCond .eq 14, 3) := by decide +kernel
theorem dX11_chart_99 : decode cX11_chart 99 = .ok (.iload 9, 2) := by decide +kernel
theorem dX11_chart_101 : decode cX11_chart 101 = .ok (.iload 11, 2) := by decide +kernel
theorem dX11_chart_103 : decode cX11_chart 103 = .ok (.ishr, 1) := by decide +kernel
theorem dX11_chart_104 : decode cX11_chart 104 = .ok (.iconst 1, 1) := by decide +kernel
theorem dX11_chart_105 : decode cX11_chart 105 = .ok (.iand, 1) := by decide +kernel
theorem dX11_chart_106 : decode cX11_chart 106 = .ok (.iconst 1, 1) := by decide +kernel
theorem dX11_chart_107 : decode cX11_chart 107 = .ok (.if_icmp .ne 5, 3) := by decide +kernel
theorem dX11_chart_110 : decode cX11_chart 110 = .ok (.iconst (-1), 1) := by decide +kernel
theorem dX11_chart_111 : decode cX11_chart 111 = .ok (.ireturn, 1) := by decide +kernel
theorem dX11_chart_112 : decode cX11_chart 112 = .ok (.iload 9, 2) := by decide +kernel
theorem dX11_chart_114 : decode cX11_chart 114 = .ok (.iconst 1, 1) := by decide +kernel
theorem dX11_chart_115 : decode cX11_chart 115 = .ok (.iload 11, 2) := by decide +kernel
theorem dX11_chart_117 : decode cX11_chart 117 = .ok (.ishl, 1) := by decide +kernel
theorem dX11_chart_118 : decode cX11_chart 118 = .ok (.ior, 1) := by decide +kernel
theorem dX11_chart_119 : decode cX11_chart 119 = .ok (.istore 9, 2) := by decide +kernel
theorem dX11_chart_121 : decode cX11_chart 121 = .ok (.aload_n 0, 1) := by decide +kernel
theorem dX11_chart_122 : decode cX11_chart 122 = .ok (.getfield 44, 3) := by decide +kernel
theorem dX11_chart_125 : decode cX11_chart 125 = .ok (.iconst 4, 1) := by decide +kernel
theorem dX11_chart_126 : decode cX11_chart 126 = .ok (.aload_n 0, 1) := by decide +kernel
theorem dX11_chart_127 : decode cX11_chart 127 = .ok (.getfield 211, 3) := by decide +kernel
theorem dX11_chart_130 : decode cX11_chart 130 = .ok (.imul, 1) := by decide +kernel
theorem dX11_chart_131 : decode cX11_chart 131 = .ok (.iload 10, 2) := by decide +kernel
theorem dX11_chart_133 : decode cX11_chart 133 = .ok (.iadd, 1) := by decide +kernel
theorem dX11_chart_134 : decode cX11_chart 134 = .ok (.iload 11, 2) := by decide +kernel
theorem dX11_chart_136 : decode cX11_chart 136 = .ok (.iastore, 1) := by decide +kernel
theorem dX11_chart_137 : decode cX11_chart 137 = .ok (.iinc 10 (-1), 3) := by decide +kernel
theorem dX11_chart_140 : decode cX11_chart 140 = .ok (.goto (-73), 3) := by decide +kernel
theorem dX11_chart_143 : decode cX11_chart 143 = .ok (.iload 8, 2) := by decide +kernel
theorem dX11_chart_145 : decode cX11_chart 145 = .ok (.ifCond .le 5, 3) := by decide +kernel
theorem dX11_chart_148 : decode cX11_chart 148 = .ok (.iconst (-1), 1) := by decide +kernel
theorem dX11_chart_149 : decode cX11_chart 149 = .ok (.ireturn, 1) := by decide +kernel
theorem dX11_chart_150 : decode cX11_chart 150 = .ok (.iconst 0, 1) := by decide +kernel
theorem dX11_chart_151 : decode cX11_chart 151 = .ok (.istore 10, 2) := by decide +kernel
theorem dX11_chart_153 : decode cX11_chart 153 = .ok (.iload 10, 2) := by decide +kernel
theorem dX11_chart_155 : decode cX11_chart 155 = .ok (.iload 7, 2) := by decide +kernel
theorem dX11_chart_157 : decode cX11_chart 157 = .ok (.if_icmp .gt 25, 3) := by decide +kernel
theorem dX11_chart_160 : decode cX11_chart 160 = .ok (.aload_n 0, 1) := by decide +kernel
theorem dX11_chart_161 : decode cX11_chart 161 = .ok (.getfield 35, 3) := by decide +kernel
theorem dX11_chart_164 : decode cX11_chart 164 = .ok (.iconst 5, 1) := by decide +kernel
theorem dX11_chart_165 : decode cX11_chart 165 = .ok (.iload_n 1, 1) := by decide +kernel
theorem dX11_chart_166 : decode cX11_chart 166 = .ok (.imul, 1) := by decide +kernel
theorem dX11_chart_167 : decode cX11_chart 167 = .ok (.iload 10, 2) := by decide +kernel
theorem dX11_chart_169 : decode cX11_chart 169 = .ok (.iadd, 1) := by decide +kernel
theorem dX11_chart_170 : decode cX11_chart 170 = .ok (.iaload, 1) := by decide +kernel
theorem dX11_chart_171 : decode cX11_chart 171 = .ok (.ifCond .ne 5, 3) := by decide +kernel
theorem dX11_chart_174 : decode cX11_chart 174 = .ok (.iconst (-1), 1) := by decide +kernel
theorem dX11_chart_175 : decode cX11_chart 175 = .ok (.ireturn, 1) := by decide +kernel
theorem dX11_chart_176 : decode cX11_chart 176 = .ok (.iinc 10 1, 3) := by decide +kernel
theorem dX11_chart_179 : decode cX11_chart 179 = .ok (.goto (-26), 3) := by decide +kernel
theorem dX11_chart_182 : decode cX11_chart 182 = .ok (.iconst 0, 1) := by decide +kernel
theorem dX11_chart_183 : decode cX11_chart 183 = .ok (.istore 10, 2) := by decide +kernel
theorem dX11_chart_185 : decode cX11_chart 185 = .ok (.iload 10, 2) := by decide +kernel
theorem dX11_chart_187 : decode cX11_chart 187 = .ok (.iconst 3, 1) := by decide +kernel
theorem dX11_chart_188 : decode cX11_chart 188 = .ok (.if_icmp .ge 99, 3) := by decide +kernel
theorem dX11_chart_191 : decode cX11_chart 191 = .ok (.iload 10, 2) := by decide +kernel
theorem dX11_chart_193 : decode cX11_chart 193 = .ok (.ifCond .ne 8, 3) := by decide +kernel
theorem dX11_chart_196 : decode cX11_chart 196 = .ok (.iload 4, 2) := by decide +kernel
theorem dX11_chart_198 : decode cX11_chart 198 = .ok (.goto 16, 3) := by decide +kernel
theorem dX11_chart_201 : decode cX11_chart 201 = .ok (.iload 10, 2) := by decide +kernel
theorem dX11_chart_203 : decode cX11_chart 203 = .ok (.iconst 1, 1) := by decide +kernel
theorem dX11_chart_204 : decode cX11_chart 204 = .ok (.if_icmp .ne 8, 3) := by decide +kernel
theorem dX11_chart_207 : decode cX11_chart 207 = .ok (.iload 5, 2) := by decide +kernel
theorem dX11_chart_209 : decode cX11_chart 209 = .ok (.goto 5, 3) := by decide +kernel
theorem dX11_chart_212 : decode cX11_chart 212 = .ok (.iload 6, 2) := by decide +kernel
theorem dX11_chart_214 : decode cX11_chart 214 = .ok (.istore 11, 2) := by decide +kernel
theorem dX11_chart_216 : decode cX11_chart 216 = .ok (.iload 10, 2) := by decide +kernel
theorem dX11_chart_218 : decode cX11_chart 218 = .ok (.iload 7, 2) := by decide +kernel
theorem dX11_chart_220 : decode cX11_chart 220 = .ok (.iconst 1, 1) := by decide +kernel
theorem dX11_chart_221 : decode cX11_chart 221 = .ok (.isub, 1) := by decide +kernel
theorem dX11_chart_222 : decode cX11_chart 222 = .ok (.if_icmp .ge 14, 3) := by decide +kernel
theorem dX11_chart_225 : decode cX11_chart 225 = .ok (.iload 11, 2) := by decide +kernel
theorem dX11_chart_227 : decode cX11_chart 227 = .ok (.invokestatic 218, 3) := by decide +kernel
theorem dX11_chart_230 : decode cX11_chart 230 = .ok (.ifCond .ne 13, 3) := by decide +kernel
theorem dX11_chart_233 : decode cX11_chart 233 = .ok (.goto 8, 3) := by decide +kernel
theorem dX11_chart_236 : decode cX11_chart 236 = .ok (.iload 11, 2) := by decide +kernel
theorem dX11_chart_238 : decode cX11_chart 238 = .ok (.ifCond .eq 5, 3) := by decide +kernel
theorem dX11_chart_241 : decode cX11_chart 241 = .ok (.iconst (-1), 1) := by decide +kernel
theorem dX11_chart_242 : decode cX11_chart 242 = .ok (.ireturn, 1) := by decide +kernel
theorem dX11_chart_243 : decode cX11_chart 243 = .ok (.aload_n 0, 1) := by decide +kernel
theorem dX11_chart_244 : decode cX11_chart 244 = .ok (.getfield 50, 3) := by decide +kernel
theorem dX11_chart_247 : decode cX11_chart 247 = .ok (.iconst 3, 1) := by decide +kernel
theorem dX11_chart_248 : decode cX11_chart 248 = .ok (.aload_n 0, 1) := by decide +kernel
theorem dX11_chart_249 : decode cX11_chart 249 = .ok (.getfield 211, 3) := by decide +kernel
theorem dX11_chart_252 : decode cX11_chart 252 = .ok (.imul, 1) := by decide +kernel
theorem dX11_chart_253 : decode cX11_chart 253 = .ok (.iload 10, 2) := by decide +kernel
theorem dX11_chart_255 : decode cX11_chart 255 = .ok (.iadd, 1) := by decide +kernel
theorem dX11_chart_256 : decode cX11_chart 256 = .ok (.iload 11, 2) := by decide +kernel
theorem dX11_chart_258 : decode cX11_chart 258 = .ok (.bipush 100, 2) := by decide +kernel
theorem dX11_chart_260 : decode cX11_chart 260 = .ok (.idiv, 1) := by decide +kernel
theorem dX11_chart_261 : decode cX11_chart 261 = .ok (.iastore, 1) := by decide +kernel
theorem dX11_chart_262 : decode cX11_chart 262 = .ok (.aload_n 0, 1) := by decide +kernel
theorem dX11_chart_263 : decode cX11_chart 263 = .ok (.getfield 53, 3) := by decide +kernel
theorem dX11_chart_266 : decode cX11_chart 266 = .ok (.iconst 3, 1) := by decide +kernel
theorem dX11_chart_267 : decode cX11_chart 267 = .ok (.aload_n 0, 1) := by decide +kernel
theorem dX11_chart_268 : decode cX11_chart 268 = .ok (.getfield 211, 3) := by decide +kernel
theorem dX11_chart_271 : decode cX11_chart 271 = .ok (.imul, 1) := by decide +kernel
theorem dX11_chart_272 : decode cX11_chart 272 = .ok (.iload 10, 2) := by decide +kernel
theorem dX11_chart_274 : decode cX11_chart 274 = .ok (.iadd, 1) := by decide +kernel
theorem dX11_chart_275 : decode cX11_chart 275 = .ok (.iload 11, 2) := by decide +kernel
theorem dX11_chart_277 : decode cX11_chart 277 = .ok (.bipush 100, 2) := by decide +kernel
theorem dX11_chart_279 : decode cX11_chart 279 = .ok (.irem, 1) := by decide +kernel
theorem dX11_chart_280 : decode cX11_chart 280 = .ok (.iastore, 1) := by decide +kernel
theorem dX11_chart_281 : decode cX11_chart 281 = .ok (.iinc 10 1, 3) := by decide +kernel
theorem dX11_chart_284 : decode cX11_chart 284 = .ok (.goto (-99), 3) := by decide +kernel
theorem dX11_chart_287 : decode cX11_chart 287 = .ok (.aload_n 0, 1) := by decide +kernel
theorem dX11_chart_288 : decode cX11_chart 288 = .ok (.getfield 41, 3) := by decide +kernel
theorem dX11_chart_291 : decode cX11_chart 291 = .ok (.aload_n 0, 1) := by decide +kernel
theorem dX11_chart_292 : decode cX11_chart 292 = .ok (.getfield 211, 3) := by decide +kernel
theorem dX11_chart_295 : decode cX11_chart 295 = .ok (.iload_n 1, 1) := by decide +kernel
theorem dX11_chart_296 : decode cX11_chart 296 = .ok (.iastore, 1) := by decide +kernel
theorem dX11_chart_297 : decode cX11_chart 297 = .ok (.aload_n 0, 1) := by decide +kernel
theorem dX11_chart_298 : decode cX11_chart 298 = .ok (.getfield 47, 3) := by decide +kernel
theorem dX11_chart_301 : decode cX11_chart 301 = .ok (.aload_n 0, 1) := by decide +kernel
theorem dX11_chart_302 : decode cX11_chart 302 = .ok (.getfield 211, 3) := by decide +kernel
theorem dX11_chart_305 : decode cX11_chart 305 = .ok (.iload_n 3, 1) := by decide +kernel
theorem dX11_chart_306 : decode cX11_chart 306 = .ok (.iastore, 1) := by decide +kernel
theorem dX11_chart_307 : decode cX11_chart 307 = .ok (.aload_n 0, 1) := by decide +kernel
theorem dX11_chart_308 : decode cX11_chart 308 = .ok (.dup, 1) := by decide +kernel
theorem dX11_chart_309 : decode cX11_chart 309 = .ok (.getfield 211, 3) := by decide +kernel
theorem dX11_chart_312 : decode cX11_chart 312 = .ok (.iconst 1, 1) := by decide +kernel
theorem dX11_chart_313 : decode cX11_chart 313 = .ok (.iadd, 1) := by decide +kernel
theorem dX11_chart_314 : decode cX11_chart 314 = .ok (.putfield 211, 3) := by decide +kernel
theorem dX11_chart_317 : decode cX11_chart 317 = .ok (.aload_n 0, 1) := by decide +kernel
theorem dX11_chart_318 : decode cX11_chart 318 = .ok (.getfield 211, 3) := by decide +kernel
theorem dX11_chart_321 : decode cX11_chart 321 = .ok (.iconst 1, 1) := by decide +kernel
theorem dX11_chart_322 : decode cX11_chart 322 = .ok (.isub, 1) := by decide +kernel
theorem dX11_chart_323 : decode cX11_chart 323 = .ok (.ireturn, 1) := by decide +kernel
theorem dX11_reading_0 : decode cX11_reading 0 = .ok (.aload_n 0, 1) := by decide +kernel
theorem dX11_reading_1 : decode cX11_reading 1 = .ok (.iload_n 1, 1) := by decide +kernel
theorem dX11_reading_2 : decode cX11_reading 2 = .ok (.invokevirtual 221, 3) := by decide +kernel
theorem dX11_reading_5 : decode cX11_reading 5 = .ok (.ifCond .eq 7, 3) := by decide +kernel
theorem dX11_reading_8 : decode cX11_reading 8 = .ok (.iload_n 2, 1) := by decide +kernel
theorem dX11_reading_9 : decode cX11_reading 9 = .ok (.ifCond .ge 5, 3) := by decide +kernel
theorem dX11_reading_12 : decode cX11_reading 12 = .ok (.iconst 0, 1) := by decide +kernel
theorem dX11_reading_13 : decode cX11_reading 13 = .ok (.ireturn, 1) := by decide +kernel
theorem dX11_reading_14 : decode cX11_reading 14 = .ok (.aload_n 0, 1) := by decide +kernel
theorem dX11_reading_15 : decode cX11_reading 15 = .ok (.getfield 41, 3) := by decide +kernel
theorem dX11_reading_18 : decode cX11_reading 18 = .ok (.iload_n 1, 1) := by decide +kernel
theorem dX11_reading_19 : decode cX11_reading 19 = .ok (.iaload, 1) := by decide +kernel
theorem dX11_reading_20 : decode cX11_reading 20 = .ok (.istore_n 3, 1) := by decide +kernel
theorem dX11_reading_21 : decode cX11_reading 21 = .ok (.aload_n 0, 1) := by decide +kernel
theorem dX11_reading_22 : decode cX11_reading 22 = .ok (.getfield 23, 3) := by decide +kernel
theorem dX11_reading_25 : decode cX11_reading 25 = .ok (.iload_n 3, 1) := by decide +kernel
theorem dX11_reading_26 : decode cX11_reading 26 = .ok (.iaload, 1) := by decide +kernel
theorem dX11_reading_27 : decode cX11_reading 27 = .ok (.iconst 1, 1) := by decide +kernel
theorem dX11_reading_28 : decode cX11_reading 28 = .ok (.isub, 1) := by decide +kernel
theorem dX11_reading_29 : decode cX11_reading 29 = .ok (.istore 4, 2) := by decide +kernel
theorem dX11_reading_31 : decode cX11_reading 31 = .ok (.iload_n 2, 1) := by decide +kernel
theorem dX11_reading_32 : decode cX11_reading 32 = .ok (.istore 5, 2) := by decide +kernel
theorem dX11_reading_34 : decode cX11_reading 34 = .ok (.iload 4, 2) := by decide +kernel
theorem dX11_reading_36 : decode cX11_reading 36 = .ok (.iconst 1, 1) := by decide +kernel
theorem dX11_reading_37 : decode cX11_reading 37 = .ok (.isub, 1) := by decide +kernel
theorem dX11_reading_38 : decode cX11_reading 38 = .ok (.istore 6, 2) := by decide +kernel
theorem dX11_reading_40 : decode cX11_reading 40 = .ok (.iload 6, 2) := by decide +kernel
theorem dX11_reading_42 : decode cX11_reading 42 = .ok (.ifCond .lt 46, 3) := by decide +kernel
theorem dX11_reading_45 : decode cX11_reading 45 = .ok (.iload 5, 2) := by decide +kernel
theorem dX11_reading_47 : decode cX11_reading 47 = .ok (.bipush 100, 2) := by decide +kernel
theorem dX11_reading_49 : decode cX11_reading 49 = .ok (.irem, 1) := by decide +kernel
theorem dX11_reading_50 : decode cX11_reading 50 = .ok (.aload_n 0, 1) := by decide +kernel
theorem dX11_reading_51 : decode cX11_reading 51 = .ok (.getfield 35, 3) := by decide +kernel
theorem dX11_reading_54 : decode cX11_reading 54 = .ok (.iconst 5, 1) := by decide +kernel
theorem dX11_reading_55 : decode cX11_reading 55 = .ok (.iload_n 3, 1) := by decide +kernel
theorem dX11_reading_56 : decode cX11_reading 56 = .ok (.imul, 1) := by decide +kernel
theorem dX11_reading_57 : decode cX11_reading 57 = .ok (.aload_n 0, 1) := by decide +kernel
theorem dX11_reading_58 : decode cX11_reading 58 = .ok (.getfield 44, 3) := by decide +kernel
theorem dX11_reading_61 : decode cX11_reading 61 = .ok (.iconst 4, 1) := by decide +kernel
theorem dX11_reading_62 : decode cX11_reading 62 = .ok (.iload_n 1, 1) := by decide +kernel
theorem dX11_reading_63 : decode cX11_reading 63 = .ok (.imul, 1) := by decide +kernel
theorem dX11_reading_64 : decode cX11_reading 64 = .ok (.iload 6, 2) := by decide +kernel
theorem dX11_reading_66 : decode cX11_reading 66 = .ok (.iadd, 1) := by decide +kernel
theorem dX11_reading_67 : decode cX11_reading 67 = .ok (.iaload, 1) := by decide +kernel
theorem dX11_reading_68 : decode cX11_reading 68 = .ok (.iadd, 1) := by decide +kernel
theorem dX11_reading_69 : decode cX11_reading 69 = .ok (.iaload, 1) := by decide +kernel
theorem dX11_reading_70 : decode cX11_reading 70 = .ok (.if_icmp .lt 5, 3) := by decide +kernel
theorem dX11_reading_73 : decode cX11_reading 73 = .ok (.iconst 0, 1) := by decide +kernel
theorem dX11_reading_74 : decode cX11_reading 74 = .ok (.ireturn, 1) := by decide +kernel
theorem dX11_reading_75 : decode cX11_reading 75 = .ok (.iload 5, 2) := by decide +kernel
theorem dX11_reading_77 : decode cX11_reading 77 = .ok (.bipush 100, 2) := by decide +kernel
theorem dX11_reading_79 : decode cX11_reading 79 = .ok (.idiv, 1) := by decide +kernel
theorem dX11_reading_80 : decode cX11_reading 80 = .ok (.istore 5, 2) := by decide +kernel
theorem dX11_reading_82 : decode cX11_reading 82 = .ok (.iinc 6 (-1), 3) := by decide +kernel
theorem dX11_reading_85 : decode cX11_reading 85 = .ok (.goto (-45), 3) := by decide +kernel
theorem dX11_reading_88 : decode cX11_reading 88 = .ok (.iload 5, 2) := by decide +kernel
theorem dX11_reading_90 : decode cX11_reading 90 = .ok (.ifCond .le 5, 3) := by decide +kernel
theorem dX11_reading_93 : decode cX11_reading 93 = .ok (.iconst 0, 1) := by decide +kernel
theorem dX11_reading_94 : decode cX11_reading 94 = .ok (.ireturn, 1) := by decide +kernel
theorem dX11_reading_95 : decode cX11_reading 95 = .ok (.iload_n 2, 1) := by decide +kernel
theorem dX11_reading_96 : decode cX11_reading 96 = .ok (.istore 5, 2) := by decide +kernel
theorem dX11_reading_98 : decode cX11_reading 98 = .ok (.iload 4, 2) := by decide +kernel
theorem dX11_reading_100 : decode cX11_reading 100 = .ok (.iconst 1, 1) := by decide +kernel
theorem dX11_reading_101 : decode cX11_reading 101 = .ok (.isub, 1) := by decide +kernel
theorem dX11_reading_102 : decode cX11_reading 102 = .ok (.istore 6, 2) := by decide +kernel
theorem dX11_reading_104 : decode cX11_reading 104 = .ok (.iload 6, 2) := by decide +kernel
theorem dX11_reading_106 : decode cX11_reading 106 = .ok (.ifCond .lt 28, 3) := by decide +kernel
theorem dX11_reading_109 : decode cX11_reading 109 = .ok (.aload_n 0, 1) := by decide +kernel
theorem dX11_reading_110 : decode cX11_reading 110 = .ok (.getfield 69, 3) := by decide +kernel
theorem dX11_reading_113 : decode cX11_reading 113 = .ok (.iload 6, 2) := by decide +kernel
theorem dX11_reading_115 : decode cX11_reading 115 = .ok (.iload 5, 2) := by decide +kernel
theorem dX11_reading_117 : decode cX11_reading 117 = .ok (.bipush 100, 2) := by decide +kernel
theorem dX11_reading_119 : decode cX11_reading 119 = .ok (.irem, 1) := by decide +kernel
theorem dX11_reading_120 : decode cX11_reading 120 = .ok (.iastore, 1) := by decide +kernel
theorem dX11_reading_121 : decode cX11_reading 121 = .ok (.iload 5, 2) := by decide +kernel
theorem dX11_reading_123 : decode cX11_reading 123 = .ok (.bipush 100, 2) := by decide +kernel
theorem dX11_reading_125 : decode cX11_reading 125 = .ok (.idiv, 1) := by decide +kernel
theorem dX11_reading_126 : decode cX11_reading 126 = .ok (.istore 5, 2) := by decide +kernel
theorem dX11_reading_128 : decode cX11_reading 128 = .ok (.iinc 6 (-1), 3) := by decide +kernel
theorem dX11_reading_131 : decode cX11_reading 131 = .ok (.goto (-27), 3) := by decide +kernel
theorem dX11_reading_134 : decode cX11_reading 134 = .ok (.aload_n 0, 1) := by decide +kernel
theorem dX11_reading_135 : decode cX11_reading 135 = .ok (.iload_n 1, 1) := by decide +kernel
theorem dX11_reading_136 : decode cX11_reading 136 = .ok (.putfield 65, 3) := by decide +kernel
theorem dX11_reading_139 : decode cX11_reading 139 = .ok (.iconst 1, 1) := by decide +kernel
theorem dX11_reading_140 : decode cX11_reading 140 = .ok (.ireturn, 1) := by decide +kernel
theorem dX11_cut_0 : decode cX11_cut 0 = .ok (.lload_n 0, 1) := by decide +kernel
theorem dX11_cut_1 : decode cX11_cut 1 = .ok (.iload_n 2, 1) := by decide +kernel
theorem dX11_cut_2 : decode cX11_cut 2 = .ok (.i2l, 1) := by decide +kernel
theorem dX11_cut_3 : decode cX11_cut 3 = .ok (.lmul, 1) := by decide +kernel
theorem dX11_cut_4 : decode cX11_cut 4 = .ok (.ldc2_w 216, 3) := by decide +kernel
theorem dX11_cut_7 : decode cX11_cut 7 = .ok (.ldiv, 1) := by decide +kernel
theorem dX11_cut_8 : decode cX11_cut 8 = .ok (.lreturn, 1) := by decide +kernel
theorem dX11_swells_0 : decode cX11_swells 0 = .ok (.lload_n 2, 1) := by decide +kernel
theorem dX11_swells_1 : decode cX11_swells 1 = .ok (.aload_n 0, 1) := by decide +kernel
theorem dX11_swells_2 : decode cX11_swells 2 = .ok (.getfield 56, 3) := by decide +kernel
theorem dX11_swells_5 : decode cX11_swells 5 = .ok (.iload_n 1, 1) := by decide +kernel
theorem dX11_swells_6 : decode cX11_swells 6 = .ok (.iaload, 1) := by decide +kernel
theorem dX11_swells_7 : decode cX11_swells 7 = .ok (.i2l, 1) := by decide +kernel
theorem dX11_swells_8 : decode cX11_swells 8 = .ok (.lcmp, 1) := by decide +kernel
theorem dX11_swells_9 : decode cX11_swells 9 = .ok (.ifCond .gt 16, 3) := by decide +kernel
theorem dX11_swells_12 : decode cX11_swells 12 = .ok (.lload_n 2, 1) := by decide +kernel
theorem dX11_swells_13 : decode cX11_swells 13 = .ok (.lload_n 2, 1) := by decide +kernel
theorem dX11_swells_14 : decode cX11_swells 14 = .ok (.aload_n 0, 1) := by decide +kernel
theorem dX11_swells_15 : decode cX11_swells 15 = .ok (.getfield 59, 3) := by decide +kernel
theorem dX11_swells_18 : decode cX11_swells 18 = .ok (.iload_n 1, 1) := by decide +kernel
theorem dX11_swells_19 : decode cX11_swells 19 = .ok (.iaload, 1) := by decide +kernel
theorem dX11_swells_20 : decode cX11_swells 20 = .ok (.invokestatic 224, 3) := by decide +kernel
theorem dX11_swells_23 : decode cX11_swells 23 = .ok (.ladd, 1) := by decide +kernel
theorem dX11_swells_24 : decode cX11_swells 24 = .ok (.lreturn, 1) := by decide +kernel
theorem dX11_swells_25 : decode cX11_swells 25 = .ok (.lload_n 2, 1) := by decide +kernel
theorem dX11_swells_26 : decode cX11_swells 26 = .ok (.aload_n 0, 1) := by decide +kernel
theorem dX11_swells_27 : decode cX11_swells 27 = .ok (.getfield 56, 3) := by decide +kernel
theorem dX11_swells_30 : decode cX11_swells 30 = .ok (.iload_n 1, 1) := by decide +kernel
theorem dX11_swells_31 : decode cX11_swells 31 = .ok (.iaload, 1) := by decide +kernel
theorem dX11_swells_32 : decode cX11_swells 32 = .ok (.i2l, 1) := by decide +kernel
theorem dX11_swells_33 : decode cX11_swells 33 = .ok (.lsub, 1) := by decide +kernel
theorem dX11_swells_34 : decode cX11_swells 34 = .ok (.lstore 4, 2) := by decide +kernel
theorem dX11_swells_36 : decode cX11_swells 36 = .ok (.aload_n 0, 1) := by decide +kernel
theorem dX11_swells_37 : decode cX11_swells 37 = .ok (.getfield 56, 3) := by decide +kernel
theorem dX11_swells_40 : decode cX11_swells 40 = .ok (.iload_n 1, 1) := by decide +kernel
theorem dX11_swells_41 : decode cX11_swells 41 = .ok (.iaload, 1) := by decide +kernel
theorem dX11_swells_42 : decode cX11_swells 42 = .ok (.i2l, 1) := by decide +kernel
theorem dX11_swells_43 : decode cX11_swells 43 = .ok (.aload_n 0, 1) := by decide +kernel
theorem dX11_swells_44 : decode cX11_swells 44 = .ok (.getfield 56, 3) := by decide +kernel
theorem dX11_swells_47 : decode cX11_swells 47 = .ok (.iload_n 1, 1) := by decide +kernel
theorem dX11_swells_48 : decode cX11_swells 48 = .ok (.iaload, 1) := by decide +kernel
theorem dX11_swells_49 : decode cX11_swells 49 = .ok (.i2l, 1) := by decide +kernel
theorem dX11_swells_50 : decode cX11_swells 50 = .ok (.aload_n 0, 1) := by decide +kernel
theorem dX11_swells_51 : decode cX11_swells 51 = .ok (.getfield 59, 3) := by decide +kernel
theorem dX11_swells_54 : decode cX11_swells 54 = .ok (.iload_n 1, 1) := by decide +kernel
theorem dX11_swells_55 : decode cX11_swells 55 = .ok (.iaload, 1) := by decide +kernel
theorem dX11_swells_56 : decode cX11_swells 56 = .ok (.invokestatic 224, 3) := by decide +kernel
theorem dX11_swells_59 : decode cX11_swells 59 = .ok (.ladd, 1) := by decide +kernel
theorem dX11_swells_60 : decode cX11_swells 60 = .ok (.lload 4, 2) := by decide +kernel
theorem dX11_swells_62 : decode cX11_swells 62 = .ok (.ladd, 1) := by decide +kernel
theorem dX11_swells_63 : decode cX11_swells 63 = .ok (.lload 4, 2) := by decide +kernel
theorem dX11_swells_65 : decode cX11_swells 65 = .ok (.aload_n 0, 1) := by decide +kernel
theorem dX11_swells_66 : decode cX11_swells 66 = .ok (.getfield 62, 3) := by decide +kernel
theorem dX11_swells_69 : decode cX11_swells 69 = .ok (.iload_n 1, 1) := by decide +kernel
theorem dX11_swells_70 : decode cX11_swells 70 = .ok (.iaload, 1) := by decide +kernel
theorem dX11_swells_71 : decode cX11_swells 71 = .ok (.invokestatic 224, 3) := by decide +kernel
theorem dX11_swells_74 : decode cX11_swells 74 = .ok (.ladd, 1) := by decide +kernel
theorem dX11_swells_75 : decode cX11_swells 75 = .ok (.lreturn, 1) := by decide +kernel
theorem dX11_back_0 : decode cX11_back 0 = .ok (.ldc2_w 228, 3) := by decide +kernel
theorem dX11_back_3 : decode cX11_back 3 = .ok (.lstore 4, 2) := by decide +kernel
theorem dX11_back_5 : decode cX11_back 5 = .ok (.ldc2_w 230, 3) := by decide +kernel
theorem dX11_back_8 : decode cX11_back 8 = .ok (.lstore 6, 2) := by decide +kernel
theorem dX11_back_10 : decode cX11_back 10 = .ok (.lload 4, 2) := by decide +kernel
theorem dX11_back_12 : decode cX11_back 12 = .ok (.lload 6, 2) := by decide +kernel
theorem dX11_back_14 : decode cX11_back 14 = .ok (.lcmp, 1) := by decide +kernel
theorem dX11_back_15 : decode cX11_back 15 = .ok (.ifCond .ge 46, 3) := by decide +kernel
theorem dX11_back_18 : decode cX11_back 18 = .ok (.lload 4, 2) := by decide +kernel
theorem dX11_back_20 : decode cX11_back 20 = .ok (.lload 6, 2) := by decide +kernel
theorem dX11_back_22 : decode cX11_back 22 = .ok (.ladd, 1) := by decide +kernel
theorem dX11_back_23 : decode cX11_back 23 = .ok (.lconst 1, 1) := by decide +kernel
theorem dX11_back_24 : decode cX11_back 24 = .ok (.ladd, 1) := by decide +kernel
theorem dX11_back_25 : decode cX11_back 25 = .ok (.ldc2_w 130, 3) := by decide +kernel
theorem dX11_back_28 : decode cX11_back 28 = .ok (.invokestatic 132, 3) := by decide +kernel
theorem dX11_back_31 : decode cX11_back 31 = .ok (.lstore 8, 2) := by decide +kernel
theorem dX11_back_33 : decode cX11_back 33 = .ok (.aload_n 0, 1) := by decide +kernel
theorem dX11_back_34 : decode cX11_back 34 = .ok (.iload_n 1, 1) := by decide +kernel
theorem dX11_back_35 : decode cX11_back 35 = .ok (.lload 8, 2) := by decide +kernel
theorem dX11_back_37 : decode cX11_back 37 = .ok (.invokevirtual 232, 3) := by decide +kernel
theorem dX11_back_40 : decode cX11_back 40 = .ok (.lload_n 2, 1) := by decide +kernel
theorem dX11_back_41 : decode cX11_back 41 = .ok (.lcmp, 1) := by decide +kernel
theorem dX11_back_42 : decode cX11_back 42 = .ok (.ifCond .gt 10, 3) := by decide +kernel
theorem dX11_back_45 : decode cX11_back 45 = .ok (.lload 8, 2) := by decide +kernel
theorem dX11_back_47 : decode cX11_back 47 = .ok (.lstore 4, 2) := by decide +kernel
theorem dX11_back_49 : decode cX11_back 49 = .ok (.goto 9, 3) := by decide +kernel
theorem dX11_back_52 : decode cX11_back 52 = .ok (.lload 8, 2) := by decide +kernel
theorem dX11_back_54 : decode cX11_back 54 = .ok (.lconst 1, 1) := by decide +kernel
theorem dX11_back_55 : decode cX11_back 55 = .ok (.lsub, 1) := by decide +kernel
theorem dX11_back_56 : decode cX11_back 56 = .ok (.lstore 6, 2) := by decide +kernel
theorem dX11_back_58 : decode cX11_back 58 = .ok (.goto (-48), 3) := by decide +kernel
theorem dX11_back_61 : decode cX11_back 61 = .ok (.lload 4, 2) := by decide +kernel
theorem dX11_back_63 : decode cX11_back 63 = .ok (.lreturn, 1) := by decide +kernel
theorem dX11_paper_0 : decode cX11_paper 0 = .ok (.aload_n 0, 1) := by decide +kernel
theorem dX11_paper_1 : decode cX11_paper 1 = .ok (.iload_n 1, 1) := by decide +kernel
theorem dX11_paper_2 : decode cX11_paper 2 = .ok (.invokevirtual 221, 3) := by decide +kernel
theorem dX11_paper_5 : decode cX11_paper 5 = .ok (.ifCond .eq 46, 3) := by decide +kernel
theorem dX11_paper_8 : decode cX11_paper 8 = .ok (.iload_n 2, 1) := by decide +kernel
theorem dX11_paper_9 : decode cX11_paper 9 = .ok (.i2l, 1) := by decide +kernel
theorem dX11_paper_10 : decode cX11_paper 10 = .ok (.ldc2_w 236, 3) := by decide +kernel
theorem dX11_paper_13 : decode cX11_paper 13 = .ok (.ldc2_w 238, 3) := by decide +kernel
theorem dX11_paper_16 : decode cX11_paper 16 = .ok (.invokestatic 139, 3) := by decide +kernel
theorem dX11_paper_19 : decode cX11_paper 19 = .ok (.ifCond .eq 32, 3) := by decide +kernel
theorem dX11_paper_22 : decode cX11_paper 22 = .ok (.iload_n 3, 1) := by decide +kernel
theorem dX11_paper_23 : decode cX11_paper 23 = .ok (.i2l, 1) := by decide +kernel
theorem dX11_paper_24 : decode cX11_paper 24 = .ok (.ldc2_w 240, 3) := by decide +kernel
theorem dX11_paper_27 : decode cX11_paper 27 = .ok (.ldc2_w 214, 3) := by decide +kernel
theorem dX11_paper_30 : decode cX11_paper 30 = .ok (.invokestatic 139, 3) := by decide +kernel
theorem dX11_paper_33 : decode cX11_paper 33 = .ok (.ifCond .eq 18, 3) := by decide +kernel
theorem dX11_paper_36 : decode cX11_paper 36 = .ok (.iload 4, 2) := by decide +kernel
theorem dX11_paper_38 : decode cX11_paper 38 = .ok (.i2l, 1) := by decide +kernel
theorem dX11_paper_39 : decode cX11_paper 39 = .ok (.ldc2_w 240, 3) := by decide +kernel
theorem dX11_paper_42 : decode cX11_paper 42 = .ok (.ldc2_w 214, 3) := by decide +kernel
theorem dX11_paper_45 : decode cX11_paper 45 = .ok (.invokestatic 139, 3) := by decide +kernel
theorem dX11_paper_48 : decode cX11_paper 48 = .ok (.ifCond .ne 5, 3) := by decide +kernel
theorem dX11_paper_51 : decode cX11_paper 51 = .ok (.iconst 0, 1) := by decide +kernel
theorem dX11_paper_52 : decode cX11_paper 52 = .ok (.ireturn, 1) := by decide +kernel
theorem dX11_paper_53 : decode cX11_paper 53 = .ok (.aload_n 0, 1) := by decide +kernel
theorem dX11_paper_54 : decode cX11_paper 54 = .ok (.getfield 56, 3) := by decide +kernel
theorem dX11_paper_57 : decode cX11_paper 57 = .ok (.iload_n 1, 1) := by decide +kernel
theorem dX11_paper_58 : decode cX11_paper 58 = .ok (.iload_n 2, 1) := by decide +kernel
theorem dX11_paper_59 : decode cX11_paper 59 = .ok (.iastore, 1) := by decide +kernel
theorem dX11_paper_60 : decode cX11_paper 60 = .ok (.aload_n 0, 1) := by decide +kernel
theorem dX11_paper_61 : decode cX11_paper 61 = .ok (.getfield 59, 3) := by decide +kernel
theorem dX11_paper_64 : decode cX11_paper 64 = .ok (.iload_n 1, 1) := by decide +kernel
theorem dX11_paper_65 : decode cX11_paper 65 = .ok (.iload_n 3, 1) := by decide +kernel
theorem dX11_paper_66 : decode cX11_paper 66 = .ok (.iastore, 1) := by decide +kernel
theorem dX11_paper_67 : decode cX11_paper 67 = .ok (.aload_n 0, 1) := by decide +kernel
theorem dX11_paper_68 : decode cX11_paper 68 = .ok (.getfield 62, 3) := by decide +kernel
theorem dX11_paper_71 : decode cX11_paper 71 = .ok (.iload_n 1, 1) := by decide +kernel
theorem dX11_paper_72 : decode cX11_paper 72 = .ok (.iload 4, 2) := by decide +kernel
theorem dX11_paper_74 : decode cX11_paper 74 = .ok (.iastore, 1) := by decide +kernel
theorem dX11_paper_75 : decode cX11_paper 75 = .ok (.iconst 1, 1) := by decide +kernel
theorem dX11_paper_76 : decode cX11_paper 76 = .ok (.ireturn, 1) := by decide +kernel
theorem dX11_swelled_0 : decode cX11_swelled 0 = .ok (.aload_n 0, 1) := by decide +kernel
theorem dX11_swelled_1 : decode cX11_swelled 1 = .ok (.iload_n 1, 1) := by decide +kernel
theorem dX11_swelled_2 : decode cX11_swelled 2 = .ok (.invokevirtual 221, 3) := by decide +kernel
theorem dX11_swelled_5 : decode cX11_swelled 5 = .ok (.ifCond .eq 17, 3) := by decide +kernel
theorem dX11_swelled_8 : decode cX11_swelled 8 = .ok (.iload_n 2, 1) := by decide +kernel
theorem dX11_swelled_9 : decode cX11_swelled 9 = .ok (.i2l, 1) := by decide +kernel
theorem dX11_swelled_10 : decode cX11_swelled 10 = .ok (.ldc2_w 242, 3) := by decide +kernel
theorem dX11_swelled_13 : decode cX11_swelled 13 = .ok (.ldc2_w 244, 3) := by decide +kernel
theorem dX11_swelled_16 : decode cX11_swelled 16 = .ok (.invokestatic 139, 3) := by decide +kernel
theorem dX11_swelled_19 : decode cX11_swelled 19 = .ok (.ifCond .ne 6, 3) := by decide +kernel
theorem dX11_swelled_22 : decode cX11_swelled 22 = .ok (.ldc 189, 2) := by decide +kernel
theorem dX11_swelled_24 : decode cX11_swelled 24 = .ok (.ireturn, 1) := by decide +kernel
theorem dX11_swelled_25 : decode cX11_swelled 25 = .ok (.iload_n 3, 1) := by decide +kernel
theorem dX11_swelled_26 : decode cX11_swelled 26 = .ok (.ifCond .eq 13, 3) := by decide +kernel
theorem dX11_swelled_29 : decode cX11_swelled 29 = .ok (.aload_n 0, 1) := by decide +kernel
theorem dX11_swelled_30 : decode cX11_swelled 30 = .ok (.iload_n 1, 1) := by decide +kernel
theorem dX11_swelled_31 : decode cX11_swelled 31 = .ok (.iload_n 2, 1) := by decide +kernel
theorem dX11_swelled_32 : decode cX11_swelled 32 = .ok (.i2l, 1) := by decide +kernel
theorem dX11_swelled_33 : decode cX11_swelled 33 = .ok (.invokevirtual 246, 3) := by decide +kernel
theorem dX11_swelled_36 : decode cX11_swelled 36 = .ok (.goto 10, 3) := by decide +kernel
theorem dX11_swelled_39 : decode cX11_swelled 39 = .ok (.aload_n 0, 1) := by decide +kernel
theorem dX11_swelled_40 : decode cX11_swelled 40 = .ok (.iload_n 1, 1) := by decide +kernel
theorem dX11_swelled_41 : decode cX11_swelled 41 = .ok (.iload_n 2, 1) := by decide +kernel
theorem dX11_swelled_42 : decode cX11_swelled 42 = .ok (.i2l, 1) := by decide +kernel
theorem dX11_swelled_43 : decode cX11_swelled 43 = .ok (.invokevirtual 232, 3) := by decide +kernel
theorem dX11_swelled_46 : decode cX11_swelled 46 = .ok (.l2i, 1) := by decide +kernel
theorem dX11_swelled_47 : decode cX11_swelled 47 = .ok (.ireturn, 1) := by decide +kernel
theorem dX11_numberOf_0 : decode cX11_numberOf 0 = .ok (.aload_n 0, 1) := by decide +kernel
theorem dX11_numberOf_1 : decode cX11_numberOf 1 = .ok (.getfield 249, 3) := by decide +kernel
theorem dX11_numberOf_4 : decode cX11_numberOf 4 = .ok (.iconst 1, 1) := by decide +kernel
theorem dX11_numberOf_5 : decode cX11_numberOf 5 = .ok (.isub, 1) := by decide +kernel
theorem dX11_numberOf_6 : decode cX11_numberOf 6 = .ok (.istore 5, 2) := by decide +kernel
theorem dX11_numberOf_8 : decode cX11_numberOf 8 = .ok (.iload 5, 2) := by decide +kernel
theorem dX11_numberOf_10 : decode cX11_numberOf 10 = .ok (.ifCond .lt 62, 3) := by decide +kernel
theorem dX11_numberOf_13 : decode cX11_numberOf 13 = .ok (.aload_n 0, 1) := by decide +kernel
theorem dX11_numberOf_14 : decode cX11_numberOf 14 = .ok (.getfield 72, 3) := by decide +kernel
theorem dX11_numberOf_17 : decode cX11_numberOf 17 = .ok (.iload 5, 2) := by decide +kernel
theorem dX11_numberOf_19 : decode cX11_numberOf 19 = .ok (.iaload, 1) := by decide +kernel
theorem dX11_numberOf_20 : decode cX11_numberOf 20 = .ok (.iload_n 1, 1) := by decide +kernel
theorem dX11_numberOf_21 : decode cX11_numberOf 21 = .ok (.if_icmp .ne 45, 3) := by decide +kernel
theorem dX11_numberOf_24 : decode cX11_numberOf 24 = .ok (.aload_n 0, 1) := by decide +kernel
theorem dX11_numberOf_25 : decode cX11_numberOf 25 = .ok (.getfield 75, 3) := by decide +kernel
theorem dX11_numberOf_28 : decode cX11_numberOf 28 = .ok (.iload 5, 2) := by decide +kernel
theorem dX11_numberOf_30 : decode cX11_numberOf 30 = .ok (.iaload, 1) := by decide +kernel
theorem dX11_numberOf_31 : decode cX11_numberOf 31 = .ok (.iload_n 2, 1) := by decide +kernel
theorem dX11_numberOf_32 : decode cX11_numberOf 32 = .ok (.if_icmp .ne 34, 3) := by decide +kernel
theorem dX11_numberOf_35 : decode cX11_numberOf 35 = .ok (.aload_n 0, 1) := by decide +kernel
theorem dX11_numberOf_36 : decode cX11_numberOf 36 = .ok (.getfield 78, 3) := by decide +kernel
theorem dX11_numberOf_39 : decode cX11_numberOf 39 = .ok (.iload 5, 2) := by decide +kernel
theorem dX11_numberOf_41 : decode cX11_numberOf 41 = .ok (.iaload, 1) := by decide +kernel
theorem dX11_numberOf_42 : decode cX11_numberOf 42 = .ok (.iload_n 3, 1) := by decide +kernel
theorem dX11_numberOf_43 : decode cX11_numberOf 43 = .ok (.if_icmp .ne 23, 3) := by decide +kernel
theorem dX11_numberOf_46 : decode cX11_numberOf 46 = .ok (.aload_n 0, 1) := by decide +kernel
theorem dX11_numberOf_47 : decode cX11_numberOf 47 = .ok (.getfield 84, 3) := by decide +kernel
theorem dX11_numberOf_50 : decode cX11_numberOf 50 = .ok (.iload 5, 2) := by decide +kernel
theorem dX11_numberOf_52 : decode cX11_numberOf 52 = .ok (.iaload, 1) := by decide +kernel
theorem dX11_numberOf_53 : decode cX11_numberOf 53 = .ok (.iload 4, 2) := by decide +kernel
theorem dX11_numberOf_55 : decode cX11_numberOf 55 = .ok (.if_icmp .gt 11, 3) := by decide +kernel
theorem dX11_numberOf_58 : decode cX11_numberOf 58 = .ok (.aload_n 0, 1) := by decide +kernel
theorem dX11_numberOf_59 : decode cX11_numberOf 59 = .ok (.getfield 81, 3) := by decide +kernel
theorem dX11_numberOf_62 : decode cX11_numberOf 62 = .ok (.iload 5, 2) := by decide +kernel
theorem dX11_numberOf_64 : decode cX11_numberOf 64 = .ok (.iaload, 1) := by decide +kernel
theorem dX11_numberOf_65 : decode cX11_numberOf 65 = .ok (.ireturn, 1) := by decide +kernel
theorem dX11_numberOf_66 : decode cX11_numberOf 66 = .ok (.iinc 5 (-1), 3) := by decide +kernel
theorem dX11_numberOf_69 : decode cX11_numberOf 69 = .ok (.goto (-61), 3) := by decide +kernel
theorem dX11_numberOf_72 : decode cX11_numberOf 72 = .ok (.aload_n 0, 1) := by decide +kernel
theorem dX11_numberOf_73 : decode cX11_numberOf 73 = .ok (.getfield 41, 3) := by decide +kernel
theorem dX11_numberOf_76 : decode cX11_numberOf 76 = .ok (.iload_n 1, 1) := by decide +kernel
theorem dX11_numberOf_77 : decode cX11_numberOf 77 = .ok (.iaload, 1) := by decide +kernel
theorem dX11_numberOf_78 : decode cX11_numberOf 78 = .ok (.istore 5, 2) := by decide +kernel
theorem dX11_numberOf_80 : decode cX11_numberOf 80 = .ok (.aload_n 0, 1) := by decide +kernel
theorem dX11_numberOf_81 : decode cX11_numberOf 81 = .ok (.getfield 32, 3) := by decide +kernel
theorem dX11_numberOf_84 : decode cX11_numberOf 84 = .ok (.iconst 5, 1) := by decide +kernel
theorem dX11_numberOf_85 : decode cX11_numberOf 85 = .ok (.iload 5, 2) := by decide +kernel
theorem dX11_numberOf_87 : decode cX11_numberOf 87 = .ok (.imul, 1) := by decide +kernel
theorem dX11_numberOf_88 : decode cX11_numberOf 88 = .ok (.iload_n 2, 1) := by decide +kernel
theorem dX11_numberOf_89 : decode cX11_numberOf 89 = .ok (.iadd, 1) := by decide +kernel
theorem dX11_numberOf_90 : decode cX11_numberOf 90 = .ok (.iaload, 1) := by decide +kernel
theorem dX11_numberOf_91 : decode cX11_numberOf 91 = .ok (.aload_n 0, 1) := by decide +kernel
theorem dX11_numberOf_92 : decode cX11_numberOf 92 = .ok (.iload 5, 2) := by decide +kernel
theorem dX11_numberOf_94 : decode cX11_numberOf 94 = .ok (.iload_n 2, 1) := by decide +kernel
theorem dX11_numberOf_95 : decode cX11_numberOf 95 = .ok (.iload_n 3, 1) := by decide +kernel
theorem dX11_numberOf_96 : decode cX11_numberOf 96 = .ok (.invokevirtual 207, 3) := by decide +kernel
theorem dX11_numberOf_99 : decode cX11_numberOf 99 = .ok (.imul, 1) := by decide +kernel
theorem dX11_numberOf_100 : decode cX11_numberOf 100 = .ok (.ireturn, 1) := by decide +kernel
theorem dX11_mid_0 : decode cX11_mid 0 = .ok (.aload_n 0, 1) := by decide +kernel
theorem dX11_mid_1 : decode cX11_mid 1 = .ok (.getfield 50, 3) := by decide +kernel
theorem dX11_mid_4 : decode cX11_mid 4 = .ok (.iconst 3, 1) := by decide +kernel
theorem dX11_mid_5 : decode cX11_mid 5 = .ok (.iload_n 1, 1) := by decide +kernel
theorem dX11_mid_6 : decode cX11_mid 6 = .ok (.imul, 1) := by decide +kernel
theorem dX11_mid_7 : decode cX11_mid 7 = .ok (.iload_n 2, 1) := by decide +kernel
theorem dX11_mid_8 : decode cX11_mid 8 = .ok (.iadd, 1) := by decide +kernel
theorem dX11_mid_9 : decode cX11_mid 9 = .ok (.iaload, 1) := by decide +kernel
theorem dX11_mid_10 : decode cX11_mid 10 = .ok (.istore_n 3, 1) := by decide +kernel
theorem dX11_mid_11 : decode cX11_mid 11 = .ok (.aload_n 0, 1) := by decide +kernel
theorem dX11_mid_12 : decode cX11_mid 12 = .ok (.getfield 47, 3) := by decide +kernel
theorem dX11_mid_15 : decode cX11_mid 15 = .ok (.iload_n 1, 1) := by decide +kernel
theorem dX11_mid_16 : decode cX11_mid 16 = .ok (.iaload, 1) := by decide +kernel
theorem dX11_mid_17 : decode cX11_mid 17 = .ok (.iload_n 3, 1) := by decide +kernel
theorem dX11_mid_18 : decode cX11_mid 18 = .ok (.imul, 1) := by decide +kernel
theorem dX11_mid_19 : decode cX11_mid 19 = .ok (.iload_n 3, 1) := by decide +kernel
theorem dX11_mid_20 : decode cX11_mid 20 = .ok (.aload_n 0, 1) := by decide +kernel
theorem dX11_mid_21 : decode cX11_mid 21 = .ok (.getfield 53, 3) := by decide +kernel
theorem dX11_mid_24 : decode cX11_mid 24 = .ok (.iconst 3, 1) := by decide +kernel
theorem dX11_mid_25 : decode cX11_mid 25 = .ok (.iload_n 1, 1) := by decide +kernel
theorem dX11_mid_26 : decode cX11_mid 26 = .ok (.imul, 1) := by decide +kernel
theorem dX11_mid_27 : decode cX11_mid 27 = .ok (.iload_n 2, 1) := by decide +kernel
theorem dX11_mid_28 : decode cX11_mid 28 = .ok (.iadd, 1) := by decide +kernel
theorem dX11_mid_29 : decode cX11_mid 29 = .ok (.iaload, 1) := by decide +kernel
theorem dX11_mid_30 : decode cX11_mid 30 = .ok (.iadd, 1) := by decide +kernel
theorem dX11_mid_31 : decode cX11_mid 31 = .ok (.idiv, 1) := by decide +kernel
theorem dX11_mid_32 : decode cX11_mid 32 = .ok (.ireturn, 1) := by decide +kernel
theorem dX11_sumAt_0 : decode cX11_sumAt 0 = .ok (.aload_n 0, 1) := by decide +kernel
theorem dX11_sumAt_1 : decode cX11_sumAt 1 = .ok (.getfield 50, 3) := by decide +kernel
theorem dX11_sumAt_4 : decode cX11_sumAt 4 = .ok (.iconst 3, 1) := by decide +kernel
theorem dX11_sumAt_5 : decode cX11_sumAt 5 = .ok (.iload_n 1, 1) := by decide +kernel
theorem dX11_sumAt_6 : decode cX11_sumAt 6 = .ok (.imul, 1) := by decide +kernel
theorem dX11_sumAt_7 : decode cX11_sumAt 7 = .ok (.iload_n 2, 1) := by decide +kernel
theorem dX11_sumAt_8 : decode cX11_sumAt 8 = .ok (.iadd, 1) := by decide +kernel
theorem dX11_sumAt_9 : decode cX11_sumAt 9 = .ok (.iaload, 1) := by decide +kernel
theorem dX11_sumAt_10 : decode cX11_sumAt 10 = .ok (.i2l, 1) := by decide +kernel
theorem dX11_sumAt_11 : decode cX11_sumAt 11 = .ok (.lstore 5, 2) := by decide +kernel
theorem dX11_sumAt_13 : decode cX11_sumAt 13 = .ok (.aload_n 0, 1) := by decide +kernel
theorem dX11_sumAt_14 : decode cX11_sumAt 14 = .ok (.getfield 53, 3) := by decide +kernel
theorem dX11_sumAt_17 : decode cX11_sumAt 17 = .ok (.iconst 3, 1) := by decide +kernel
theorem dX11_sumAt_18 : decode cX11_sumAt 18 = .ok (.iload_n 1, 1) := by decide +kernel
theorem dX11_sumAt_19 : decode cX11_sumAt 19 = .ok (.imul, 1) := by decide +kernel
theorem dX11_sumAt_20 : decode cX11_sumAt 20 = .ok (.iload_n 2, 1) := by decide +kernel
theorem dX11_sumAt_21 : decode cX11_sumAt 21 = .ok (.iadd, 1) := by decide +kernel
theorem dX11_sumAt_22 : decode cX11_sumAt 22 = .ok (.iaload, 1) := by decide +kernel
theorem dX11_sumAt_23 : decode cX11_sumAt 23 = .ok (.i2l, 1) := by decide +kernel
theorem dX11_sumAt_24 : decode cX11_sumAt 24 = .ok (.lstore 7, 2) := by decide +kernel
theorem dX11_sumAt_26 : decode cX11_sumAt 26 = .ok (.lload_n 3, 1) := by decide +kernel
theorem dX11_sumAt_27 : decode cX11_sumAt 27 = .ok (.lload 5, 2) := by decide +kernel
theorem dX11_sumAt_29 : decode cX11_sumAt 29 = .ok (.lload 7, 2) := by decide +kernel
theorem dX11_sumAt_31 : decode cX11_sumAt 31 = .ok (.ladd, 1) := by decide +kernel
theorem dX11_sumAt_32 : decode cX11_sumAt 32 = .ok (.lmul, 1) := by decide +kernel
theorem dX11_sumAt_33 : decode cX11_sumAt 33 = .ok (.lload 5, 2) := by decide +kernel
theorem dX11_sumAt_35 : decode cX11_sumAt 35 = .ok (.lload 7, 2) := by decide +kernel
theorem dX11_sumAt_37 : decode cX11_sumAt 37 = .ok (.lmul, 1) := by decide +kernel
theorem dX11_sumAt_38 : decode cX11_sumAt 38 = .ok (.invokestatic 204, 3) := by decide +kernel
theorem dX11_sumAt_41 : decode cX11_sumAt 41 = .ok (.lreturn, 1) := by decide +kernel
theorem dX11_goes_0 : decode cX11_goes 0 = .ok (.aload_n 0, 1) := by decide +kernel
theorem dX11_goes_1 : decode cX11_goes 1 = .ok (.iload_n 1, 1) := by decide +kernel
theorem dX11_goes_2 : decode cX11_goes 2 = .ok (.aload_n 0, 1) := by decide +kernel
theorem dX11_goes_3 : decode cX11_goes 3 = .ok (.getfield 44, 3) := by decide +kernel
theorem dX11_goes_6 : decode cX11_goes 6 = .ok (.iconst 4, 1) := by decide +kernel
theorem dX11_goes_7 : decode cX11_goes 7 = .ok (.iload_n 1, 1) := by decide +kernel
theorem dX11_goes_8 : decode cX11_goes 8 = .ok (.imul, 1) := by decide +kernel
theorem dX11_goes_9 : decode cX11_goes 9 = .ok (.iaload, 1) := by decide +kernel
theorem dX11_goes_10 : decode cX11_goes 10 = .ok (.aload_n 0, 1) := by decide +kernel
theorem dX11_goes_11 : decode cX11_goes 11 = .ok (.getfield 105, 3) := by decide +kernel
theorem dX11_goes_14 : decode cX11_goes 14 = .ok (.iconst 0, 1) := by decide +kernel
theorem dX11_goes_15 : decode cX11_goes 15 = .ok (.iaload, 1) := by decide +kernel
theorem dX11_goes_16 : decode cX11_goes 16 = .ok (.iload_n 2, 1) := by decide +kernel
theorem dX11_goes_17 : decode cX11_goes 17 = .ok (.invokevirtual 252, 3) := by decide +kernel
theorem dX11_goes_20 : decode cX11_goes 20 = .ok (.i2l, 1) := by decide +kernel
theorem dX11_goes_21 : decode cX11_goes 21 = .ok (.lstore_n 3, 1) := by decide +kernel
theorem dX11_goes_22 : decode cX11_goes 22 = .ok (.iconst 0, 1) := by decide +kernel
theorem dX11_goes_23 : decode cX11_goes 23 = .ok (.istore 5, 2) := by decide +kernel
theorem dX11_goes_25 : decode cX11_goes 25 = .ok (.iload 5, 2) := by decide +kernel
theorem dX11_goes_27 : decode cX11_goes 27 = .ok (.aload_n 0, 1) := by decide +kernel
theorem dX11_goes_28 : decode cX11_goes 28 = .ok (.iload_n 1, 1) := by decide +kernel
theorem dX11_goes_29 : decode cX11_goes 29 = .ok (.invokevirtual 256, 3) := by decide +kernel
theorem dX11_goes_32 : decode cX11_goes 32 = .ok (.if_icmp .ge 170, 3) := by decide +kernel
theorem dX11_goes_35 : decode cX11_goes 35 = .ok (.aload_n 0, 1) := by decide +kernel
theorem dX11_goes_36 : decode cX11_goes 36 = .ok (.iload_n 1, 1) := by decide +kernel
theorem dX11_goes_37 : decode cX11_goes 37 = .ok (.aload_n 0, 1) := by decide +kernel
theorem dX11_goes_38 : decode cX11_goes 38 = .ok (.getfield 44, 3) := by decide +kernel
theorem dX11_goes_41 : decode cX11_goes 41 = .ok (.iconst 4, 1) := by decide +kernel
theorem dX11_goes_42 : decode cX11_goes 42 = .ok (.iload_n 1, 1) := by decide +kernel
theorem dX11_goes_43 : decode cX11_goes 43 = .ok (.imul, 1) := by decide +kernel
theorem dX11_goes_44 : decode cX11_goes 44 = .ok (.iload 5, 2) := by decide +kernel
theorem dX11_goes_46 : decode cX11_goes 46 = .ok (.iadd, 1) := by decide +kernel
theorem dX11_goes_47 : decode cX11_goes 47 = .ok (.iconst 1, 1) := by decide +kernel
theorem dX11_goes_48 : decode cX11_goes 48 = .ok (.iadd, 1) := by decide +kernel
theorem dX11_goes_49 : decode cX11_goes 49 = .ok (.iaload, 1) := by decide +kernel
theorem dX11_goes_50 : decode cX11_goes 50 = .ok (.aload_n 0, 1) := by decide +kernel
theorem dX11_goes_51 : decode cX11_goes 51 = .ok (.getfield 105, 3) := by decide +kernel
theorem dX11_goes_54 : decode cX11_goes 54 = .ok (.iload 5, 2) := by decide +kernel
theorem dX11_goes_56 : decode cX11_goes 56 = .ok (.iconst 1, 1) := by decide +kernel
theorem dX11_goes_57 : decode cX11_goes 57 = .ok (.iadd, 1) := by decide +kernel
theorem dX11_goes_58 : decode cX11_goes 58 = .ok (.iaload, 1) := by decide +kernel
theorem dX11_goes_59 : decode cX11_goes 59 = .ok (.iload_n 2, 1) := by decide +kernel
theorem dX11_goes_60 : decode cX11_goes 60 = .ok (.invokevirtual 252, 3) := by decide +kernel
theorem dX11_goes_63 : decode cX11_goes 63 = .ok (.i2l, 1) := by decide +kernel
theorem dX11_goes_64 : decode cX11_goes 64 = .ok (.lstore 6, 2) := by decide +kernel
theorem dX11_goes_66 : decode cX11_goes 66 = .ok (.aload_n 0, 1) := by decide +kernel
theorem dX11_goes_67 : decode cX11_goes 67 = .ok (.getfield 108, 3) := by decide +kernel
theorem dX11_goes_70 : decode cX11_goes 70 = .ok (.iload 5, 2) := by decide +kernel
theorem dX11_goes_72 : decode cX11_goes 72 = .ok (.aload_n 0, 1) := by decide +kernel
theorem dX11_goes_73 : decode cX11_goes 73 = .ok (.iload_n 1, 1) := by decide +kernel
theorem dX11_goes_74 : decode cX11_goes 74 = .ok (.aload_n 0, 1) := by decide +kernel
theorem dX11_goes_75 : decode cX11_goes 75 = .ok (.getfield 50, 3) := by decide +kernel
theorem dX11_goes_78 : decode cX11_goes 78 = .ok (.iconst 3, 1) := by decide +kernel
theorem dX11_goes_79 : decode cX11_goes 79 = .ok (.iload_n 1, 1) := by decide +kernel
theorem dX11_goes_80 : decode cX11_goes 80 = .ok (.imul, 1) := by decide +kernel
theorem dX11_goes_81 : decode cX11_goes 81 = .ok (.iload 5, 2) := by decide +kernel
theorem dX11_goes_83 : decode cX11_goes 83 = .ok (.iadd, 1) := by decide +kernel
theorem dX11_goes_84 : decode cX11_goes 84 = .ok (.iaload, 1) := by decide +kernel
theorem dX11_goes_85 : decode cX11_goes 85 = .ok (.i2l, 1) := by decide +kernel
theorem dX11_goes_86 : decode cX11_goes 86 = .ok (.lload_n 3, 1) := by decide +kernel
theorem dX11_goes_87 : decode cX11_goes 87 = .ok (.lmul, 1) := by decide +kernel
theorem dX11_goes_88 : decode cX11_goes 88 = .ok (.invokevirtual 232, 3) := by decide +kernel
theorem dX11_goes_91 : decode cX11_goes 91 = .ok (.lastore, 1) := by decide +kernel
theorem dX11_goes_92 : decode cX11_goes 92 = .ok (.aload_n 0, 1) := by decide +kernel
theorem dX11_goes_93 : decode cX11_goes 93 = .ok (.getfield 112, 3) := by decide +kernel
theorem dX11_goes_96 : decode cX11_goes 96 = .ok (.iload 5, 2) := by decide +kernel
theorem dX11_goes_98 : decode cX11_goes 98 = .ok (.aload_n 0, 1) := by decide +kernel
theorem dX11_goes_99 : decode cX11_goes 99 = .ok (.iload_n 1, 1) := by decide +kernel
theorem dX11_goes_100 : decode cX11_goes 100 = .ok (.aload_n 0, 1) := by decide +kernel
theorem dX11_goes_101 : decode cX11_goes 101 = .ok (.getfield 53, 3) := by decide +kernel
theorem dX11_goes_104 : decode cX11_goes 104 = .ok (.iconst 3, 1) := by decide +kernel
theorem dX11_goes_105 : decode cX11_goes 105 = .ok (.iload_n 1, 1) := by decide +kernel
theorem dX11_goes_106 : decode cX11_goes 106 = .ok (.imul, 1) := by decide +kernel
theorem dX11_goes_107 : decode cX11_goes 107 = .ok (.iload 5, 2) := by decide +kernel
theorem dX11_goes_109 : decode cX11_goes 109 = .ok (.iadd, 1) := by decide +kernel
theorem dX11_goes_110 : decode cX11_goes 110 = .ok (.iaload, 1) := by decide +kernel
theorem dX11_goes_111 : decode cX11_goes 111 = .ok (.i2l, 1) := by decide +kernel
theorem dX11_goes_112 : decode cX11_goes 112 = .ok (.lload 6, 2) := by decide +kernel
theorem dX11_goes_114 : decode cX11_goes 114 = .ok (.lmul, 1) := by decide +kernel
theorem dX11_goes_115 : decode cX11_goes 115 = .ok (.invokevirtual 232, 3) := by decide +kernel
theorem dX11_goes_118 : decode cX11_goes 118 = .ok (.lastore, 1) := by decide +kernel
theorem dX11_goes_119 : decode cX11_goes 119 = .ok (.aload_n 0, 1) := by decide +kernel
theorem dX11_goes_120 : decode cX11_goes 120 = .ok (.getfield 115, 3) := by decide +kernel
theorem dX11_goes_123 : decode cX11_goes 123 = .ok (.iload 5, 2) := by decide +kernel
theorem dX11_goes_125 : decode cX11_goes 125 = .ok (.aload_n 0, 1) := by decide +kernel
theorem dX11_goes_126 : decode cX11_goes 126 = .ok (.getfield 108, 3) := by decide +kernel
theorem dX11_goes_129 : decode cX11_goes 129 = .ok (.iload 5, 2) := by decide +kernel
theorem dX11_goes_131 : decode cX11_goes 131 = .ok (.laload, 1) := by decide +kernel
theorem dX11_goes_132 : decode cX11_goes 132 = .ok (.aload_n 0, 1) := by decide +kernel
theorem dX11_goes_133 : decode cX11_goes 133 = .ok (.getfield 112, 3) := by decide +kernel
theorem dX11_goes_136 : decode cX11_goes 136 = .ok (.iload 5, 2) := by decide +kernel
theorem dX11_goes_138 : decode cX11_goes 138 = .ok (.laload, 1) := by decide +kernel
theorem dX11_goes_139 : decode cX11_goes 139 = .ok (.aload_n 0, 1) := by decide +kernel
theorem dX11_goes_140 : decode cX11_goes 140 = .ok (.getfield 108, 3) := by decide +kernel
theorem dX11_goes_143 : decode cX11_goes 143 = .ok (.iload 5, 2) := by decide +kernel
theorem dX11_goes_145 : decode cX11_goes 145 = .ok (.laload, 1) := by decide +kernel
theorem dX11_goes_146 : decode cX11_goes 146 = .ok (.lsub, 1) := by decide +kernel
theorem dX11_goes_147 : decode cX11_goes 147 = .ok (.aload_n 0, 1) := by decide +kernel
theorem dX11_goes_148 : decode cX11_goes 148 = .ok (.iload_n 1, 1) := by decide +kernel
theorem dX11_goes_149 : decode cX11_goes 149 = .ok (.iload 5, 2) := by decide +kernel
theorem dX11_goes_151 : decode cX11_goes 151 = .ok (.invokevirtual 260, 3) := by decide +kernel
theorem dX11_goes_154 : decode cX11_goes 154 = .ok (.i2l, 1) := by decide +kernel
theorem dX11_goes_155 : decode cX11_goes 155 = .ok (.lmul, 1) := by decide +kernel
theorem dX11_goes_156 : decode cX11_goes 156 = .ok (.aload_n 0, 1) := by decide +kernel
theorem dX11_goes_157 : decode cX11_goes 157 = .ok (.getfield 47, 3) := by decide +kernel
theorem dX11_goes_160 : decode cX11_goes 160 = .ok (.iload_n 1, 1) := by decide +kernel
theorem dX11_goes_161 : decode cX11_goes 161 = .ok (.iaload, 1) := by decide +kernel
theorem dX11_goes_162 : decode cX11_goes 162 = .ok (.i2l, 1) := by decide +kernel
theorem dX11_goes_163 : decode cX11_goes 163 = .ok (.invokestatic 204, 3) := by decide +kernel
theorem dX11_goes_166 : decode cX11_goes 166 = .ok (.ladd, 1) := by decide +kernel
theorem dX11_goes_167 : decode cX11_goes 167 = .ok (.lastore, 1) := by decide +kernel
theorem dX11_goes_168 : decode cX11_goes 168 = .ok (.aload_n 0, 1) := by decide +kernel
theorem dX11_goes_169 : decode cX11_goes 169 = .ok (.iload_n 1, 1) := by decide +kernel
theorem dX11_goes_170 : decode cX11_goes 170 = .ok (.iload 5, 2) := by decide +kernel
theorem dX11_goes_172 : decode cX11_goes 172 = .ok (.aload_n 0, 1) := by decide +kernel
theorem dX11_goes_173 : decode cX11_goes 173 = .ok (.iload_n 1, 1) := by decide +kernel
theorem dX11_goes_174 : decode cX11_goes 174 = .ok (.aload_n 0, 1) := by decide +kernel
theorem dX11_goes_175 : decode cX11_goes 175 = .ok (.getfield 115, 3) := by decide +kernel
theorem dX11_goes_178 : decode cX11_goes 178 = .ok (.iload 5, 2) := by decide +kernel
theorem dX11_goes_180 : decode cX11_goes 180 = .ok (.laload, 1) := by decide +kernel
theorem dX11_goes_181 : decode cX11_goes 181 = .ok (.invokevirtual 246, 3) := by decide +kernel
theorem dX11_goes_184 : decode cX11_goes 184 = .ok (.invokevirtual 264, 3) := by decide +kernel
theorem dX11_goes_187 : decode cX11_goes 187 = .ok (.lstore_n 3, 1) := by decide +kernel
theorem dX11_goes_188 : decode cX11_goes 188 = .ok (.aload_n 0, 1) := by decide +kernel
theorem dX11_goes_189 : decode cX11_goes 189 = .ok (.getfield 118, 3) := by decide +kernel
theorem dX11_goes_192 : decode cX11_goes 192 = .ok (.iload 5, 2) := by decide +kernel
theorem dX11_goes_194 : decode cX11_goes 194 = .ok (.lload_n 3, 1) := by decide +kernel
theorem dX11_goes_195 : decode cX11_goes 195 = .ok (.lastore, 1) := by decide +kernel
theorem dX11_goes_196 : decode cX11_goes 196 = .ok (.iinc 5 1, 3) := by decide +kernel
theorem dX11_goes_199 : decode cX11_goes 199 = .ok (.goto (-174), 3) := by decide +kernel
theorem dX11_goes_202 : decode cX11_goes 202 = .ok (.lload_n 3, 1) := by decide +kernel
theorem dX11_goes_203 : decode cX11_goes 203 = .ok (.aload_n 0, 1) := by decide +kernel
theorem dX11_goes_204 : decode cX11_goes 204 = .ok (.getfield 26, 3) := by decide +kernel
theorem dX11_goes_207 : decode cX11_goes 207 = .ok (.aload_n 0, 1) := by decide +kernel
theorem dX11_goes_208 : decode cX11_goes 208 = .ok (.getfield 41, 3) := by decide +kernel
theorem dX11_goes_211 : decode cX11_goes 211 = .ok (.iload_n 1, 1) := by decide +kernel
theorem dX11_goes_212 : decode cX11_goes 212 = .ok (.iaload, 1) := by decide +kernel
theorem dX11_goes_213 : decode cX11_goes 213 = .ok (.iaload, 1) := by decide +kernel
theorem dX11_goes_214 : decode cX11_goes 214 = .ok (.i2l, 1) := by decide +kernel
theorem dX11_goes_215 : decode cX11_goes 215 = .ok (.ladd, 1) := by decide +kernel
theorem dX11_goes_216 : decode cX11_goes 216 = .ok (.lreturn, 1) := by decide +kernel
theorem dX11_takes_0 : decode cX11_takes 0 = .ok (.iconst 0, 1) := by decide +kernel
theorem dX11_takes_1 : decode cX11_takes 1 = .ok (.istore_n 3, 1) := by decide +kernel
theorem dX11_takes_2 : decode cX11_takes 2 = .ok (.iload_n 3, 1) := by decide +kernel
theorem dX11_takes_3 : decode cX11_takes 3 = .ok (.iconst 4, 1) := by decide +kernel
theorem dX11_takes_4 : decode cX11_takes 4 = .ok (.if_icmp .ge 20, 3) := by decide +kernel
theorem dX11_takes_7 : decode cX11_takes 7 = .ok (.aload_n 0, 1) := by decide +kernel
theorem dX11_takes_8 : decode cX11_takes 8 = .ok (.getfield 105, 3) := by decide +kernel
theorem dX11_takes_11 : decode cX11_takes 11 = .ok (.iload_n 3, 1) := by decide +kernel
theorem dX11_takes_12 : decode cX11_takes 12 = .ok (.aload_n 1, 1) := by decide +kernel
theorem dX11_takes_13 : decode cX11_takes 13 = .ok (.iload_n 2, 1) := by decide +kernel
theorem dX11_takes_14 : decode cX11_takes 14 = .ok (.iload_n 3, 1) := by decide +kernel
theorem dX11_takes_15 : decode cX11_takes 15 = .ok (.iadd, 1) := by decide +kernel
theorem dX11_takes_16 : decode cX11_takes 16 = .ok (.iaload, 1) := by decide +kernel
theorem dX11_takes_17 : decode cX11_takes 17 = .ok (.iastore, 1) := by decide +kernel
theorem dX11_takes_18 : decode cX11_takes 18 = .ok (.iinc 3 1, 3) := by decide +kernel
theorem dX11_takes_21 : decode cX11_takes 21 = .ok (.goto (-19), 3) := by decide +kernel
theorem dX11_takes_24 : decode cX11_takes 24 = .ok (.return_, 1) := by decide +kernel
theorem dX11_tenths_0 : decode cX11_tenths 0 = .ok (.aload_n 0, 1) := by decide +kernel
theorem dX11_tenths_1 : decode cX11_tenths 1 = .ok (.getfield 35, 3) := by decide +kernel
theorem dX11_tenths_4 : decode cX11_tenths 4 = .ok (.iconst 5, 1) := by decide +kernel
theorem dX11_tenths_5 : decode cX11_tenths 5 = .ok (.iload_n 1, 1) := by decide +kernel
theorem dX11_tenths_6 : decode cX11_tenths 6 = .ok (.imul, 1) := by decide +kernel
theorem dX11_tenths_7 : decode cX11_tenths 7 = .ok (.iaload, 1) := by decide +kernel
theorem dX11_tenths_8 : decode cX11_tenths 8 = .ok (.istore 4, 2) := by decide +kernel
theorem dX11_tenths_10 : decode cX11_tenths 10 = .ok (.lconst 0, 1) := by decide +kernel
theorem dX11_tenths_11 : decode cX11_tenths 11 = .ok (.lstore 5, 2) := by decide +kernel
theorem dX11_tenths_13 : decode cX11_tenths 13 = .ok (.iconst 0, 1) := by decide +kernel
theorem dX11_tenths_14 : decode cX11_tenths 14 = .ok (.istore 7, 2) := by decide +kernel
theorem dX11_tenths_16 : decode cX11_tenths 16 = .ok (.iconst (-1), 1) := by decide +kernel
theorem dX11_tenths_17 : decode cX11_tenths 17 = .ok (.istore 8, 2) := by decide +kernel
theorem dX11_tenths_19 : decode cX11_tenths 19 = .ok (.lconst 0, 1) := by decide +kernel
theorem dX11_tenths_20 : decode cX11_tenths 20 = .ok (.lstore 9, 2) := by decide +kernel
theorem dX11_tenths_22 : decode cX11_tenths 22 = .ok (.iconst 0, 1) := by decide +kernel
theorem dX11_tenths_23 : decode cX11_tenths 23 = .ok (.istore 11, 2) := by decide +kernel
theorem dX11_tenths_25 : decode cX11_tenths 25 = .ok (.iload 11, 2) := by decide +kernel
theorem dX11_tenths_27 : decode cX11_tenths 27 = .ok (.iload 4, 2) := by decide +kernel
theorem dX11_tenths_29 : decode cX11_tenths 29 = .ok (.if_icmp .ge 161, 3) := by decide +kernel
theorem dX11_tenths_32 : decode cX11_tenths 32 = .ok (.iconst 0, 1) := by decide +kernel
theorem dX11_tenths_33 : decode cX11_tenths 33 = .ok (.istore 12, 2) := by decide +kernel
theorem dX11_tenths_35 : decode cX11_tenths 35 = .ok (.lconst 0, 1) := by decide +kernel
theorem dX11_tenths_36 : decode cX11_tenths 36 = .ok (.lstore 13, 2) := by decide +kernel
theorem dX11_tenths_38 : decode cX11_tenths 38 = .ok (.iconst 0, 1) := by decide +kernel
theorem dX11_tenths_39 : decode cX11_tenths 39 = .ok (.istore 15, 2) := by decide +kernel
theorem dX11_tenths_41 : decode cX11_tenths 41 = .ok (.iload 15, 2) := by decide +kernel
theorem dX11_tenths_43 : decode cX11_tenths 43 = .ok (.iload 4, 2) := by decide +kernel
theorem dX11_tenths_45 : decode cX11_tenths 45 = .ok (.if_icmp .ge 58, 3) := by decide +kernel
theorem dX11_tenths_48 : decode cX11_tenths 48 = .ok (.aload_n 0, 1) := by decide +kernel
theorem dX11_tenths_49 : decode cX11_tenths 49 = .ok (.iload_n 1, 1) := by decide +kernel
theorem dX11_tenths_50 : decode cX11_tenths 50 = .ok (.iconst 0, 1) := by decide +kernel
theorem dX11_tenths_51 : decode cX11_tenths 51 = .ok (.iload 15, 2) := by decide +kernel
theorem dX11_tenths_53 : decode cX11_tenths 53 = .ok (.invokevirtual 207, 3) := by decide +kernel
theorem dX11_tenths_56 : decode cX11_tenths 56 = .ok (.istore 16, 2) := by decide +kernel
theorem dX11_tenths_58 : decode cX11_tenths 58 = .ok (.iload 7, 2) := by decide +kernel
theorem dX11_tenths_60 : decode cX11_tenths 60 = .ok (.ifCond .eq 12, 3) := by decide +kernel
theorem dX11_tenths_63 : decode cX11_tenths 63 = .ok (.iload 16, 2) := by decide +kernel
theorem dX11_tenths_65 : decode cX11_tenths 65 = .ok (.i2l, 1) := by decide +kernel
theorem dX11_tenths_66 : decode cX11_tenths 66 = .ok (.lload 5, 2) := by decide +kernel
theorem dX11_tenths_68 : decode cX11_tenths 68 = .ok (.lcmp, 1) := by decide +kernel
theorem dX11_tenths_69 : decode cX11_tenths 69 = .ok (.ifCond .le 28, 3) := by decide +kernel
theorem dX11_tenths_72 : decode cX11_tenths 72 = .ok (.iload 12, 2) := by decide +kernel
theorem dX11_tenths_74 : decode cX11_tenths 74 = .ok (.ifCond .eq 15, 3) := by decide +kernel
theorem dX11_tenths_77 : decode cX11_tenths 77 = .ok (.iload 16, 2) := by decide +kernel
theorem dX11_tenths_79 : decode cX11_tenths 79 = .ok (.i2l, 1) := by decide +kernel
theorem dX11_tenths_80 : decode cX11_tenths 80 = .ok (.lload 13, 2) := by decide +kernel
theorem dX11_tenths_82 : decode cX11_tenths 82 = .ok (.lcmp, 1) := by decide +kernel
theorem dX11_tenths_83 : decode cX11_tenths 83 = .ok (.ifCond .lt 6, 3) := by decide +kernel
theorem dX11_tenths_86 : decode cX11_tenths 86 = .ok (.goto 11, 3) := by decide +kernel
theorem dX11_tenths_89 : decode cX11_tenths 89 = .ok (.iload 16, 2) := by decide +kernel
theorem dX11_tenths_91 : decode cX11_tenths 91 = .ok (.i2l, 1) := by decide +kernel
theorem dX11_tenths_92 : decode cX11_tenths 92 = .ok (.lstore 13, 2) := by decide +kernel
theorem dX11_tenths_94 : decode cX11_tenths 94 = .ok (.iconst 1, 1) := by decide +kernel
theorem dX11_tenths_95 : decode cX11_tenths 95 = .ok (.istore 12, 2) := by decide +kernel
theorem dX11_tenths_97 : decode cX11_tenths 97 = .ok (.iinc 15 1, 3) := by decide +kernel
theorem dX11_tenths_100 : decode cX11_tenths 100 = .ok (.goto (-59), 3) := by decide +kernel
theorem dX11_tenths_103 : decode cX11_tenths 103 = .ok (.iload 12, 2) := by decide +kernel
theorem dX11_tenths_105 : decode cX11_tenths 105 = .ok (.ifCond .ne 26, 3) := by decide +kernel
theorem dX11_tenths_108 : decode cX11_tenths 108 = .ok (.iload 8, 2) := by decide +kernel
theorem dX11_tenths_110 : decode cX11_tenths 110 = .ok (.iconst (-1), 1) := by decide +kernel
theorem dX11_tenths_111 : decode cX11_tenths 111 = .ok (.if_icmp .eq 18, 3) := by decide +kernel
theorem dX11_tenths_114 : decode cX11_tenths 114 = .ok (.lload_n 2, 1) := by decide +kernel
theorem dX11_tenths_115 : decode cX11_tenths 115 = .ok (.lload 9, 2) := by decide +kernel
theorem dX11_tenths_117 : decode cX11_tenths 117 = .ok (.lcmp, 1) := by decide +kernel
theorem dX11_tenths_118 : decode cX11_tenths 118 = .ok (.ifCond .ne 11, 3) := by decide +kernel
theorem dX11_tenths_121 : decode cX11_tenths 121 = .ok (.bipush 10, 2) := by decide +kernel
theorem dX11_tenths_123 : decode cX11_tenths 123 = .ok (.iload 8, 2) := by decide +kernel
theorem dX11_tenths_125 : decode cX11_tenths 125 = .ok (.imul, 1) := by decide +kernel
theorem dX11_tenths_126 : decode cX11_tenths 126 = .ok (.goto 4, 3) := by decide +kernel
theorem dX11_tenths_129 : decode cX11_tenths 129 = .ok (.iconst (-1), 1) := by decide +kernel
theorem dX11_tenths_130 : decode cX11_tenths 130 = .ok (.ireturn, 1) := by decide +kernel
theorem dX11_tenths_131 : decode cX11_tenths 131 = .ok (.lload 13, 2) := by decide +kernel
theorem dX11_tenths_133 : decode cX11_tenths 133 = .ok (.lload_n 2, 1) := by decide +kernel
theorem dX11_tenths_134 : decode cX11_tenths 134 = .ok (.lcmp, 1) := by decide +kernel
theorem dX11_tenths_135 : decode cX11_tenths 135 = .ok (.ifCond .le 35, 3) := by decide +kernel
theorem dX11_tenths_138 : decode cX11_tenths 138 = .ok (.iload 8, 2) := by decide +kernel
theorem dX11_tenths_140 : decode cX11_tenths 140 = .ok (.iconst (-1), 1) := by decide +kernel
theorem dX11_tenths_141 : decode cX11_tenths 141 = .ok (.if_icmp .ne 7, 3) := by decide +kernel
theorem dX11_tenths_144 : decode cX11_tenths 144 = .ok (.iconst (-1), 1) := by decide +kernel
theorem dX11_tenths_145 : decode cX11_tenths 145 = .ok (.goto 24, 3) := by decide +kernel
theorem dX11_tenths_148 : decode cX11_tenths 148 = .ok (.bipush 10, 2) := by decide +kernel
theorem dX11_tenths_150 : decode cX11_tenths 150 = .ok (.iload 8, 2) := by decide +kernel
theorem dX11_tenths_152 : decode cX11_tenths 152 = .ok (.imul, 1) := by decide +kernel
theorem dX11_tenths_153 : decode cX11_tenths 153 = .ok (.ldc2_w 190, 3) := by decide +kernel
theorem dX11_tenths_156 : decode cX11_tenths 156 = .ok (.lload_n 2, 1) := by decide +kernel
theorem dX11_tenths_157 : decode cX11_tenths 157 = .ok (.lload 9, 2) := by decide +kernel
theorem dX11_tenths_159 : decode cX11_tenths 159 = .ok (.lsub, 1) := by decide +kernel
theorem dX11_tenths_160 : decode cX11_tenths 160 = .ok (.lmul, 1) := by decide +kernel
theorem dX11_tenths_161 : decode cX11_tenths 161 = .ok (.lload 13, 2) := by decide +kernel
theorem dX11_tenths_163 : decode cX11_tenths 163 = .ok (.lload 9, 2) := by decide +kernel
theorem dX11_tenths_165 : decode cX11_tenths 165 = .ok (.lsub, 1) := by decide +kernel
theorem dX11_tenths_166 : decode cX11_tenths 166 = .ok (.ldiv, 1) := by decide +kernel
theorem dX11_tenths_167 : decode cX11_tenths 167 = .ok (.l2i, 1) := by decide +kernel
theorem dX11_tenths_168 : decode cX11_tenths 168 = .ok (.iadd, 1) := by decide +kernel
theorem dX11_tenths_169 : decode cX11_tenths 169 = .ok (.ireturn, 1) := by decide +kernel
theorem dX11_tenths_170 : decode cX11_tenths 170 = .ok (.lload 13, 2) := by decide +kernel
theorem dX11_tenths_172 : decode cX11_tenths 172 = .ok (.lstore 5, 2) := by decide +kernel
theorem dX11_tenths_174 : decode cX11_tenths 174 = .ok (.iconst 1, 1) := by decide +kernel
theorem dX11_tenths_175 : decode cX11_tenths 175 = .ok (.istore 7, 2) := by decide +kernel
theorem dX11_tenths_177 : decode cX11_tenths 177 = .ok (.iinc 8 1, 3) := by decide +kernel
theorem dX11_tenths_180 : decode cX11_tenths 180 = .ok (.lload 13, 2) := by decide +kernel
theorem dX11_tenths_182 : decode cX11_tenths 182 = .ok (.lstore 9, 2) := by decide +kernel
theorem dX11_tenths_184 : decode cX11_tenths 184 = .ok (.iinc 11 1, 3) := by decide +kernel
theorem dX11_tenths_187 : decode cX11_tenths 187 = .ok (.goto (-162), 3) := by decide +kernel
theorem dX11_tenths_190 : decode cX11_tenths 190 = .ok (.lload_n 2, 1) := by decide +kernel
theorem dX11_tenths_191 : decode cX11_tenths 191 = .ok (.lload 9, 2) := by decide +kernel
theorem dX11_tenths_193 : decode cX11_tenths 193 = .ok (.lcmp, 1) := by decide +kernel
theorem dX11_tenths_194 : decode cX11_tenths 194 = .ok (.ifCond .ne 11, 3) := by decide +kernel
theorem dX11_tenths_197 : decode cX11_tenths 197 = .ok (.bipush 10, 2) := by decide +kernel
theorem dX11_tenths_199 : decode cX11_tenths 199 = .ok (.iload 8, 2) := by decide +kernel
theorem dX11_tenths_201 : decode cX11_tenths 201 = .ok (.imul, 1) := by decide +kernel
theorem dX11_tenths_202 : decode cX11_tenths 202 = .ok (.goto 4, 3) := by decide +kernel
theorem dX11_tenths_205 : decode cX11_tenths 205 = .ok (.iconst (-1), 1) := by decide +kernel
theorem dX11_tenths_206 : decode cX11_tenths 206 = .ok (.ireturn, 1) := by decide +kernel
theorem dX11_read_0 : decode cX11_read 0 = .ok (.aload_n 0, 1) := by decide +kernel
theorem dX11_read_1 : decode cX11_read 1 = .ok (.getfield 65, 3) := by decide +kernel
theorem dX11_read_4 : decode cX11_read 4 = .ok (.iconst (-1), 1) := by decide +kernel
theorem dX11_read_5 : decode cX11_read 5 = .ok (.if_icmp .eq 29, 3) := by decide +kernel
theorem dX11_read_8 : decode cX11_read 8 = .ok (.iload_n 1, 1) := by decide +kernel
theorem dX11_read_9 : decode cX11_read 9 = .ok (.i2l, 1) := by decide +kernel
theorem dX11_read_10 : decode cX11_read 10 = .ok (.lconst 0, 1) := by decide +kernel
theorem dX11_read_11 : decode cX11_read 11 = .ok (.aload_n 0, 1) := by decide +kernel
theorem dX11_read_12 : decode cX11_read 12 = .ok (.getfield 268, 3) := by decide +kernel
theorem dX11_read_15 : decode cX11_read 15 = .ok (.i2l, 1) := by decide +kernel
theorem dX11_read_16 : decode cX11_read 16 = .ok (.invokestatic 139, 3) := by decide +kernel
theorem dX11_read_19 : decode cX11_read 19 = .ok (.ifCond .eq 15, 3) := by decide +kernel
theorem dX11_read_22 : decode cX11_read 22 = .ok (.iload_n 2, 1) := by decide +kernel
theorem dX11_read_23 : decode cX11_read 23 = .ok (.i2l, 1) := by decide +kernel
theorem dX11_read_24 : decode cX11_read 24 = .ok (.lconst 0, 1) := by decide +kernel
theorem dX11_read_25 : decode cX11_read 25 = .ok (.ldc2_w 130, 3) := by decide +kernel
theorem dX11_read_28 : decode cX11_read 28 = .ok (.invokestatic 139, 3) := by decide +kernel
theorem dX11_read_31 : decode cX11_read 31 = .ok (.ifCond .ne 6, 3) := by decide +kernel
theorem dX11_read_34 : decode cX11_read 34 = .ok (.ldc 189, 2) := by decide +kernel
theorem dX11_read_36 : decode cX11_read 36 = .ok (.ireturn, 1) := by decide +kernel
theorem dX11_read_37 : decode cX11_read 37 = .ok (.aload_n 0, 1) := by decide +kernel
theorem dX11_read_38 : decode cX11_read 38 = .ok (.getfield 41, 3) := by decide +kernel
theorem dX11_read_41 : decode cX11_read 41 = .ok (.aload_n 0, 1) := by decide +kernel
theorem dX11_read_42 : decode cX11_read 42 = .ok (.getfield 65, 3) := by decide +kernel
theorem dX11_read_45 : decode cX11_read 45 = .ok (.iaload, 1) := by decide +kernel
theorem dX11_read_46 : decode cX11_read 46 = .ok (.istore_n 3, 1) := by decide +kernel
theorem dX11_read_47 : decode cX11_read 47 = .ok (.aload_n 0, 1) := by decide +kernel
theorem dX11_read_48 : decode cX11_read 48 = .ok (.aload_n 0, 1) := by decide +kernel
theorem dX11_read_49 : decode cX11_read 49 = .ok (.getfield 69, 3) := by decide +kernel
theorem dX11_read_52 : decode cX11_read 52 = .ok (.iconst 0, 1) := by decide +kernel
theorem dX11_read_53 : decode cX11_read 53 = .ok (.invokevirtual 271, 3) := by decide +kernel
theorem dX11_read_56 : decode cX11_read 56 = .ok (.iload_n 2, 1) := by decide +kernel
theorem dX11_read_57 : decode cX11_read 57 = .ok (.iconst 2, 1) := by decide +kernel
theorem dX11_read_58 : decode cX11_read 58 = .ok (.if_icmp .ne 91, 3) := by decide +kernel
theorem dX11_read_61 : decode cX11_read 61 = .ok (.aload_n 0, 1) := by decide +kernel
theorem dX11_read_62 : decode cX11_read 62 = .ok (.getfield 26, 3) := by decide +kernel
theorem dX11_read_65 : decode cX11_read 65 = .ok (.iload_n 3, 1) := by decide +kernel
theorem dX11_read_66 : decode cX11_read 66 = .ok (.iaload, 1) := by decide +kernel
theorem dX11_read_67 : decode cX11_read 67 = .ok (.istore 4, 2) := by decide +kernel
theorem dX11_read_69 : decode cX11_read 69 = .ok (.iconst 0, 1) := by decide +kernel
theorem dX11_read_70 : decode cX11_read 70 = .ok (.istore 5, 2) := by decide +kernel
theorem dX11_read_72 : decode cX11_read 72 = .ok (.iload 5, 2) := by decide +kernel
theorem dX11_read_74 : decode cX11_read 74 = .ok (.aload_n 0, 1) := by decide +kernel
theorem dX11_read_75 : decode cX11_read 75 = .ok (.getfield 23, 3) := by decide +kernel
theorem dX11_read_78 : decode cX11_read 78 = .ok (.iload_n 3, 1) := by decide +kernel
theorem dX11_read_79 : decode cX11_read 79 = .ok (.iaload, 1) := by decide +kernel
theorem dX11_read_80 : decode cX11_read 80 = .ok (.iconst 1, 1) := by decide +kernel
theorem dX11_read_81 : decode cX11_read 81 = .ok (.isub, 1) := by decide +kernel
theorem dX11_read_82 : decode cX11_read 82 = .ok (.if_icmp .ge 64, 3) := by decide +kernel
theorem dX11_read_85 : decode cX11_read 85 = .ok (.iload 4, 2) := by decide +kernel
theorem dX11_read_87 : decode cX11_read 87 = .ok (.aload_n 0, 1) := by decide +kernel
theorem dX11_read_88 : decode cX11_read 88 = .ok (.getfield 32, 3) := by decide +kernel
theorem dX11_read_91 : decode cX11_read 91 = .ok (.iconst 5, 1) := by decide +kernel
theorem dX11_read_92 : decode cX11_read 92 = .ok (.iload_n 3, 1) := by decide +kernel
theorem dX11_read_93 : decode cX11_read 93 = .ok (.imul, 1) := by decide +kernel
theorem dX11_read_94 : decode cX11_read 94 = .ok (.aload_n 0, 1) := by decide +kernel
theorem dX11_read_95 : decode cX11_read 95 = .ok (.getfield 44, 3) := by decide +kernel
theorem dX11_read_98 : decode cX11_read 98 = .ok (.iconst 4, 1) := by decide +kernel
theorem dX11_read_99 : decode cX11_read 99 = .ok (.aload_n 0, 1) := by decide +kernel
theorem dX11_read_100 : decode cX11_read 100 = .ok (.getfield 65, 3) := by decide +kernel
theorem dX11_read_103 : decode cX11_read 103 = .ok (.imul, 1) := by decide +kernel
theorem dX11_read_104 : decode cX11_read 104 = .ok (.iload 5, 2) := by decide +kernel
theorem dX11_read_106 : decode cX11_read 106 = .ok (.iadd, 1) := by decide +kernel
theorem dX11_read_107 : decode cX11_read 107 = .ok (.iaload, 1) := by decide +kernel
theorem dX11_read_108 : decode cX11_read 108 = .ok (.iadd, 1) := by decide +kernel
theorem dX11_read_109 : decode cX11_read 109 = .ok (.iaload, 1) := by decide +kernel
theorem dX11_read_110 : decode cX11_read 110 = .ok (.aload_n 0, 1) := by decide +kernel
theorem dX11_read_111 : decode cX11_read 111 = .ok (.iload_n 3, 1) := by decide +kernel
theorem dX11_read_112 : decode cX11_read 112 = .ok (.aload_n 0, 1) := by decide +kernel
theorem dX11_read_113 : decode cX11_read 113 = .ok (.getfield 44, 3) := by decide +kernel
theorem dX11_read_116 : decode cX11_read 116 = .ok (.iconst 4, 1) := by decide +kernel
theorem dX11_read_117 : decode cX11_read 117 = .ok (.aload_n 0, 1) := by decide +kernel
theorem dX11_read_118 : decode cX11_read 118 = .ok (.getfield 65, 3) := by decide +kernel
theorem dX11_read_121 : decode cX11_read 121 = .ok (.imul, 1) := by decide +kernel
theorem dX11_read_122 : decode cX11_read 122 = .ok (.iload 5, 2) := by decide +kernel
theorem dX11_read_124 : decode cX11_read 124 = .ok (.iadd, 1) := by decide +kernel
theorem dX11_read_125 : decode cX11_read 125 = .ok (.iaload, 1) := by decide +kernel
theorem dX11_read_126 : decode cX11_read 126 = .ok (.aload_n 0, 1) := by decide +kernel
theorem dX11_read_127 : decode cX11_read 127 = .ok (.getfield 105, 3) := by decide +kernel
theorem dX11_read_130 : decode cX11_read 130 = .ok (.iload 5, 2) := by decide +kernel
theorem dX11_read_132 : decode cX11_read 132 = .ok (.iaload, 1) := by decide +kernel
theorem dX11_read_133 : decode cX11_read 133 = .ok (.invokevirtual 207, 3) := by decide +kernel
theorem dX11_read_136 : decode cX11_read 136 = .ok (.imul, 1) := by decide +kernel
theorem dX11_read_137 : decode cX11_read 137 = .ok (.iadd, 1) := by decide +kernel
theorem dX11_read_138 : decode cX11_read 138 = .ok (.istore 4, 2) := by decide +kernel
theorem dX11_read_140 : decode cX11_read 140 = .ok (.iinc 5 1, 3) := by decide +kernel
theorem dX11_read_143 : decode cX11_read 143 = .ok (.goto (-71), 3) := by decide +kernel
theorem dX11_read_146 : decode cX11_read 146 = .ok (.iload 4, 2) := by decide +kernel
theorem dX11_read_148 : decode cX11_read 148 = .ok (.ireturn, 1) := by decide +kernel
theorem dX11_read_149 : decode cX11_read 149 = .ok (.aload_n 0, 1) := by decide +kernel
theorem dX11_read_150 : decode cX11_read 150 = .ok (.aload_n 0, 1) := by decide +kernel
theorem dX11_read_151 : decode cX11_read 151 = .ok (.getfield 65, 3) := by decide +kernel
theorem dX11_read_154 : decode cX11_read 154 = .ok (.iload_n 1, 1) := by decide +kernel
theorem dX11_read_155 : decode cX11_read 155 = .ok (.invokevirtual 275, 3) := by decide +kernel
theorem dX11_read_158 : decode cX11_read 158 = .ok (.lstore 4, 2) := by decide +kernel
theorem dX11_read_160 : decode cX11_read 160 = .ok (.iload_n 2, 1) := by decide +kernel
theorem dX11_read_161 : decode cX11_read 161 = .ok (.ifCond .ne 9, 3) := by decide +kernel
theorem dX11_read_164 : decode cX11_read 164 = .ok (.lload 4, 2) := by decide +kernel
theorem dX11_read_166 : decode cX11_read 166 = .ok (.l2i, 1) := by decide +kernel
theorem dX11_read_167 : decode cX11_read 167 = .ok (.goto 10, 3) := by decide +kernel
theorem dX11_read_170 : decode cX11_read 170 = .ok (.aload_n 0, 1) := by decide +kernel
theorem dX11_read_171 : decode cX11_read 171 = .ok (.iload_n 3, 1) := by decide +kernel
theorem dX11_read_172 : decode cX11_read 172 = .ok (.lload 4, 2) := by decide +kernel
theorem dX11_read_174 : decode cX11_read 174 = .ok (.invokevirtual 279, 3) := by decide +kernel
theorem dX11_read_177 : decode cX11_read 177 = .ok (.ireturn, 1) := by decide +kernel
theorem dX11_lead_0 : decode cX11_lead 0 = .ok (.aload_n 0, 1) := by decide +kernel
theorem dX11_lead_1 : decode cX11_lead 1 = .ok (.getfield 65, 3) := by decide +kernel
theorem dX11_lead_4 : decode cX11_lead 4 = .ok (.iconst (-1), 1) := by decide +kernel
theorem dX11_lead_5 : decode cX11_lead 5 = .ok (.if_icmp .eq 35, 3) := by decide +kernel
theorem dX11_lead_8 : decode cX11_lead 8 = .ok (.iload_n 1, 1) := by decide +kernel
theorem dX11_lead_9 : decode cX11_lead 9 = .ok (.i2l, 1) := by decide +kernel
theorem dX11_lead_10 : decode cX11_lead 10 = .ok (.lconst 0, 1) := by decide +kernel
theorem dX11_lead_11 : decode cX11_lead 11 = .ok (.aload_n 0, 1) := by decide +kernel
theorem dX11_lead_12 : decode cX11_lead 12 = .ok (.aload_n 0, 1) := by decide +kernel
theorem dX11_lead_13 : decode cX11_lead 13 = .ok (.getfield 65, 3) := by decide +kernel
theorem dX11_lead_16 : decode cX11_lead 16 = .ok (.invokevirtual 256, 3) := by decide +kernel
theorem dX11_lead_19 : decode cX11_lead 19 = .ok (.iconst 1, 1) := by decide +kernel
theorem dX11_lead_20 : decode cX11_lead 20 = .ok (.isub, 1) := by decide +kernel
theorem dX11_lead_21 : decode cX11_lead 21 = .ok (.i2l, 1) := by decide +kernel
theorem dX11_lead_22 : decode cX11_lead 22 = .ok (.invokestatic 139, 3) := by decide +kernel
theorem dX11_lead_25 : decode cX11_lead 25 = .ok (.ifCond .eq 15, 3) := by decide +kernel
theorem dX11_lead_28 : decode cX11_lead 28 = .ok (.iload_n 2, 1) := by decide +kernel
theorem dX11_lead_29 : decode cX11_lead 29 = .ok (.i2l, 1) := by decide +kernel
theorem dX11_lead_30 : decode cX11_lead 30 = .ok (.lconst 0, 1) := by decide +kernel
theorem dX11_lead_31 : decode cX11_lead 31 = .ok (.ldc2_w 283, 3) := by decide +kernel
theorem dX11_lead_34 : decode cX11_lead 34 = .ok (.invokestatic 139, 3) := by decide +kernel
theorem dX11_lead_37 : decode cX11_lead 37 = .ok (.ifCond .ne 6, 3) := by decide +kernel
theorem dX11_lead_40 : decode cX11_lead 40 = .ok (.ldc 189, 2) := by decide +kernel
theorem dX11_lead_42 : decode cX11_lead 42 = .ok (.ireturn, 1) := by decide +kernel
theorem dX11_lead_43 : decode cX11_lead 43 = .ok (.aload_n 0, 1) := by decide +kernel
theorem dX11_lead_44 : decode cX11_lead 44 = .ok (.aload_n 0, 1) := by decide +kernel
theorem dX11_lead_45 : decode cX11_lead 45 = .ok (.getfield 69, 3) := by decide +kernel
theorem dX11_lead_48 : decode cX11_lead 48 = .ok (.iconst 0, 1) := by decide +kernel
theorem dX11_lead_49 : decode cX11_lead 49 = .ok (.invokevirtual 271, 3) := by decide +kernel
theorem dX11_lead_52 : decode cX11_lead 52 = .ok (.aload_n 0, 1) := by decide +kernel
theorem dX11_lead_53 : decode cX11_lead 53 = .ok (.aload_n 0, 1) := by decide +kernel
theorem dX11_lead_54 : decode cX11_lead 54 = .ok (.getfield 65, 3) := by decide +kernel
theorem dX11_lead_57 : decode cX11_lead 57 = .ok (.aload_n 0, 1) := by decide +kernel
theorem dX11_lead_58 : decode cX11_lead 58 = .ok (.getfield 268, 3) := by decide +kernel
theorem dX11_lead_61 : decode cX11_lead 61 = .ok (.invokevirtual 275, 3) := by decide +kernel
theorem dX11_lead_64 : decode cX11_lead 64 = .ok (.pop2, 1) := by decide +kernel
theorem dX11_lead_65 : decode cX11_lead 65 = .ok (.iload_n 2, 1) := by decide +kernel
theorem dX11_lead_66 : decode cX11_lead 66 = .ok (.ifCond .ne 12, 3) := by decide +kernel
theorem dX11_lead_69 : decode cX11_lead 69 = .ok (.aload_n 0, 1) := by decide +kernel
theorem dX11_lead_70 : decode cX11_lead 70 = .ok (.getfield 108, 3) := by decide +kernel
theorem dX11_lead_73 : decode cX11_lead 73 = .ok (.iload_n 1, 1) := by decide +kernel
theorem dX11_lead_74 : decode cX11_lead 74 = .ok (.laload, 1) := by decide +kernel
theorem dX11_lead_75 : decode cX11_lead 75 = .ok (.goto 37, 3) := by decide +kernel
theorem dX11_lead_78 : decode cX11_lead 78 = .ok (.iload_n 2, 1) := by decide +kernel
theorem dX11_lead_79 : decode cX11_lead 79 = .ok (.iconst 1, 1) := by decide +kernel
theorem dX11_lead_80 : decode cX11_lead 80 = .ok (.if_icmp .ne 12, 3) := by decide +kernel
theorem dX11_lead_83 : decode cX11_lead 83 = .ok (.aload_n 0, 1) := by decide +kernel
theorem dX11_lead_84 : decode cX11_lead 84 = .ok (.getfield 112, 3) := by decide +kernel
theorem dX11_lead_87 : decode cX11_lead 87 = .ok (.iload_n 1, 1) := by decide +kernel
theorem dX11_lead_88 : decode cX11_lead 88 = .ok (.laload, 1) := by decide +kernel
theorem dX11_lead_89 : decode cX11_lead 89 = .ok (.goto 23, 3) := by decide +kernel
theorem dX11_lead_92 : decode cX11_lead 92 = .ok (.iload_n 2, 1) := by decide +kernel
theorem dX11_lead_93 : decode cX11_lead 93 = .ok (.iconst 2, 1) := by decide +kernel
theorem dX11_lead_94 : decode cX11_lead 94 = .ok (.if_icmp .ne 12, 3) := by decide +kernel
theorem dX11_lead_97 : decode cX11_lead 97 = .ok (.aload_n 0, 1) := by decide +kernel
theorem dX11_lead_98 : decode cX11_lead 98 = .ok (.getfield 115, 3) := by decide +kernel
theorem dX11_lead_101 : decode cX11_lead 101 = .ok (.iload_n 1, 1) := by decide +kernel
theorem dX11_lead_102 : decode cX11_lead 102 = .ok (.laload, 1) := by decide +kernel
theorem dX11_lead_103 : decode cX11_lead 103 = .ok (.goto 9, 3) := by decide +kernel
theorem dX11_lead_106 : decode cX11_lead 106 = .ok (.aload_n 0, 1) := by decide +kernel
theorem dX11_lead_107 : decode cX11_lead 107 = .ok (.getfield 118, 3) := by decide +kernel
theorem dX11_lead_110 : decode cX11_lead 110 = .ok (.iload_n 1, 1) := by decide +kernel
theorem dX11_lead_111 : decode cX11_lead 111 = .ok (.laload, 1) := by decide +kernel
theorem dX11_lead_112 : decode cX11_lead 112 = .ok (.l2i, 1) := by decide +kernel
theorem dX11_lead_113 : decode cX11_lead 113 = .ok (.ireturn, 1) := by decide +kernel
theorem dX11_signed_0 : decode cX11_signed 0 = .ok (.aload_n 0, 1) := by decide +kernel
theorem dX11_signed_1 : decode cX11_signed 1 = .ok (.getfield 32, 3) := by decide +kernel
theorem dX11_signed_4 : decode cX11_signed 4 = .ok (.iconst 5, 1) := by decide +kernel
theorem dX11_signed_5 : decode cX11_signed 5 = .ok (.iload_n 1, 1) := by decide +kernel
theorem dX11_signed_6 : decode cX11_signed 6 = .ok (.imul, 1) := by decide +kernel
theorem dX11_signed_7 : decode cX11_signed 7 = .ok (.iload_n 2, 1) := by decide +kernel
theorem dX11_signed_8 : decode cX11_signed 8 = .ok (.iadd, 1) := by decide +kernel
theorem dX11_signed_9 : decode cX11_signed 9 = .ok (.iaload, 1) := by decide +kernel
theorem dX11_signed_10 : decode cX11_signed 10 = .ok (.aload_n 0, 1) := by decide +kernel
theorem dX11_signed_11 : decode cX11_signed 11 = .ok (.iload_n 1, 1) := by decide +kernel
theorem dX11_signed_12 : decode cX11_signed 12 = .ok (.iload_n 2, 1) := by decide +kernel
theorem dX11_signed_13 : decode cX11_signed 13 = .ok (.iload_n 3, 1) := by decide +kernel
theorem dX11_signed_14 : decode cX11_signed 14 = .ok (.invokevirtual 207, 3) := by decide +kernel
theorem dX11_signed_17 : decode cX11_signed 17 = .ok (.imul, 1) := by decide +kernel
theorem dX11_signed_18 : decode cX11_signed 18 = .ok (.i2l, 1) := by decide +kernel
theorem dX11_signed_19 : decode cX11_signed 19 = .ok (.lreturn, 1) := by decide +kernel
theorem dX11_spans_0 : decode cX11_spans 0 = .ok (.aload_n 0, 1) := by decide +kernel
theorem dX11_spans_1 : decode cX11_spans 1 = .ok (.getfield 41, 3) := by decide +kernel
theorem dX11_spans_4 : decode cX11_spans 4 = .ok (.iload_n 1, 1) := by decide +kernel
theorem dX11_spans_5 : decode cX11_spans 5 = .ok (.iaload, 1) := by decide +kernel
theorem dX11_spans_6 : decode cX11_spans 6 = .ok (.istore_n 3, 1) := by decide +kernel
theorem dX11_spans_7 : decode cX11_spans 7 = .ok (.aload_n 0, 1) := by decide +kernel
theorem dX11_spans_8 : decode cX11_spans 8 = .ok (.aload_n 0, 1) := by decide +kernel
theorem dX11_spans_9 : decode cX11_spans 9 = .ok (.iload_n 3, 1) := by decide +kernel
theorem dX11_spans_10 : decode cX11_spans 10 = .ok (.aload_n 0, 1) := by decide +kernel
theorem dX11_spans_11 : decode cX11_spans 11 = .ok (.getfield 121, 3) := by decide +kernel
theorem dX11_spans_14 : decode cX11_spans 14 = .ok (.iconst 0, 1) := by decide +kernel
theorem dX11_spans_15 : decode cX11_spans 15 = .ok (.iaload, 1) := by decide +kernel
theorem dX11_spans_16 : decode cX11_spans 16 = .ok (.aload_n 0, 1) := by decide +kernel
theorem dX11_spans_17 : decode cX11_spans 17 = .ok (.getfield 105, 3) := by decide +kernel
theorem dX11_spans_20 : decode cX11_spans 20 = .ok (.iconst 0, 1) := by decide +kernel
theorem dX11_spans_21 : decode cX11_spans 21 = .ok (.iaload, 1) := by decide +kernel
theorem dX11_spans_22 : decode cX11_spans 22 = .ok (.invokevirtual 285, 3) := by decide +kernel
theorem dX11_spans_25 : decode cX11_spans 25 = .ok (.putfield 289, 3) := by decide +kernel
theorem dX11_spans_28 : decode cX11_spans 28 = .ok (.aload_n 0, 1) := by decide +kernel
theorem dX11_spans_29 : decode cX11_spans 29 = .ok (.aload_n 0, 1) := by decide +kernel
theorem dX11_spans_30 : decode cX11_spans 30 = .ok (.getfield 289, 3) := by decide +kernel
theorem dX11_spans_33 : decode cX11_spans 33 = .ok (.putfield 293, 3) := by decide +kernel
theorem dX11_spans_36 : decode cX11_spans 36 = .ok (.iconst 0, 1) := by decide +kernel
theorem dX11_spans_37 : decode cX11_spans 37 = .ok (.istore 4, 2) := by decide +kernel
theorem dX11_spans_39 : decode cX11_spans 39 = .ok (.iload 4, 2) := by decide +kernel
theorem dX11_spans_41 : decode cX11_spans 41 = .ok (.aload_n 0, 1) := by decide +kernel
theorem dX11_spans_42 : decode cX11_spans 42 = .ok (.iload_n 1, 1) := by decide +kernel
theorem dX11_spans_43 : decode cX11_spans 43 = .ok (.invokevirtual 256, 3) := by decide +kernel
theorem dX11_spans_46 : decode cX11_spans 46 = .ok (.if_icmp .ge 167, 3) := by decide +kernel
theorem dX11_spans_49 : decode cX11_spans 49 = .ok (.aload_n 0, 1) := by decide +kernel
theorem dX11_spans_50 : decode cX11_spans 50 = .ok (.getfield 53, 3) := by decide +kernel
theorem dX11_spans_53 : decode cX11_spans 53 = .ok (.iconst 3, 1) := by decide +kernel
theorem dX11_spans_54 : decode cX11_spans 54 = .ok (.iload_n 1, 1) := by decide +kernel
theorem dX11_spans_55 : decode cX11_spans 55 = .ok (.imul, 1) := by decide +kernel
theorem dX11_spans_56 : decode cX11_spans 56 = .ok (.iload 4, 2) := by decide +kernel
theorem dX11_spans_58 : decode cX11_spans 58 = .ok (.iadd, 1) := by decide +kernel
theorem dX11_spans_59 : decode cX11_spans 59 = .ok (.iaload, 1) := by decide +kernel
theorem dX11_spans_60 : decode cX11_spans 60 = .ok (.i2l, 1) := by decide +kernel
theorem dX11_spans_61 : decode cX11_spans 61 = .ok (.aload_n 0, 1) := by decide +kernel
theorem dX11_spans_62 : decode cX11_spans 62 = .ok (.iload_n 3, 1) := by decide +kernel
theorem dX11_spans_63 : decode cX11_spans 63 = .ok (.aload_n 0, 1) := by decide +kernel
theorem dX11_spans_64 : decode cX11_spans 64 = .ok (.getfield 121, 3) := by decide +kernel
theorem dX11_spans_67 : decode cX11_spans 67 = .ok (.iload 4, 2) := by decide +kernel
theorem dX11_spans_69 : decode cX11_spans 69 = .ok (.iconst 1, 1) := by decide +kernel
theorem dX11_spans_70 : decode cX11_spans 70 = .ok (.iadd, 1) := by decide +kernel
theorem dX11_spans_71 : decode cX11_spans 71 = .ok (.iaload, 1) := by decide +kernel
theorem dX11_spans_72 : decode cX11_spans 72 = .ok (.aload_n 0, 1) := by decide +kernel
theorem dX11_spans_73 : decode cX11_spans 73 = .ok (.getfield 105, 3) := by decide +kernel
theorem dX11_spans_76 : decode cX11_spans 76 = .ok (.iload 4, 2) := by decide +kernel
theorem dX11_spans_78 : decode cX11_spans 78 = .ok (.iconst 1, 1) := by decide +kernel
theorem dX11_spans_79 : decode cX11_spans 79 = .ok (.iadd, 1) := by decide +kernel
theorem dX11_spans_80 : decode cX11_spans 80 = .ok (.iaload, 1) := by decide +kernel
theorem dX11_spans_81 : decode cX11_spans 81 = .ok (.invokevirtual 285, 3) := by decide +kernel
theorem dX11_spans_84 : decode cX11_spans 84 = .ok (.lmul, 1) := by decide +kernel
theorem dX11_spans_85 : decode cX11_spans 85 = .ok (.lstore 5, 2) := by decide +kernel
theorem dX11_spans_87 : decode cX11_spans 87 = .ok (.aload_n 0, 1) := by decide +kernel
theorem dX11_spans_88 : decode cX11_spans 88 = .ok (.getfield 50, 3) := by decide +kernel
theorem dX11_spans_91 : decode cX11_spans 91 = .ok (.iconst 3, 1) := by decide +kernel
theorem dX11_spans_92 : decode cX11_spans 92 = .ok (.iload_n 1, 1) := by decide +kernel
theorem dX11_spans_93 : decode cX11_spans 93 = .ok (.imul, 1) := by decide +kernel
theorem dX11_spans_94 : decode cX11_spans 94 = .ok (.iload 4, 2) := by decide +kernel
theorem dX11_spans_96 : decode cX11_spans 96 = .ok (.iadd, 1) := by decide +kernel
theorem dX11_spans_97 : decode cX11_spans 97 = .ok (.iaload, 1) := by decide +kernel
theorem dX11_spans_98 : decode cX11_spans 98 = .ok (.i2l, 1) := by decide +kernel
theorem dX11_spans_99 : decode cX11_spans 99 = .ok (.aload_n 0, 1) := by decide +kernel
theorem dX11_spans_100 : decode cX11_spans 100 = .ok (.getfield 289, 3) := by decide +kernel
theorem dX11_spans_103 : decode cX11_spans 103 = .ok (.lmul, 1) := by decide +kernel
theorem dX11_spans_104 : decode cX11_spans 104 = .ok (.lstore 7, 2) := by decide +kernel
theorem dX11_spans_106 : decode cX11_spans 106 = .ok (.aload_n 0, 1) := by decide +kernel
theorem dX11_spans_107 : decode cX11_spans 107 = .ok (.getfield 50, 3) := by decide +kernel
theorem dX11_spans_110 : decode cX11_spans 110 = .ok (.iconst 3, 1) := by decide +kernel
theorem dX11_spans_111 : decode cX11_spans 111 = .ok (.iload_n 1, 1) := by decide +kernel
theorem dX11_spans_112 : decode cX11_spans 112 = .ok (.imul, 1) := by decide +kernel
theorem dX11_spans_113 : decode cX11_spans 113 = .ok (.iload 4, 2) := by decide +kernel
theorem dX11_spans_115 : decode cX11_spans 115 = .ok (.iadd, 1) := by decide +kernel
theorem dX11_spans_116 : decode cX11_spans 116 = .ok (.iaload, 1) := by decide +kernel
theorem dX11_spans_117 : decode cX11_spans 117 = .ok (.i2l, 1) := by decide +kernel
theorem dX11_spans_118 : decode cX11_spans 118 = .ok (.aload_n 0, 1) := by decide +kernel
theorem dX11_spans_119 : decode cX11_spans 119 = .ok (.getfield 293, 3) := by decide +kernel
theorem dX11_spans_122 : decode cX11_spans 122 = .ok (.lmul, 1) := by decide +kernel
theorem dX11_spans_123 : decode cX11_spans 123 = .ok (.lstore 9, 2) := by decide +kernel
theorem dX11_spans_125 : decode cX11_spans 125 = .ok (.aload_n 0, 1) := by decide +kernel
theorem dX11_spans_126 : decode cX11_spans 126 = .ok (.aload_n 0, 1) := by decide +kernel
theorem dX11_spans_127 : decode cX11_spans 127 = .ok (.iload_n 1, 1) := by decide +kernel
theorem dX11_spans_128 : decode cX11_spans 128 = .ok (.iload 4, 2) := by decide +kernel
theorem dX11_spans_130 : decode cX11_spans 130 = .ok (.lload 7, 2) := by decide +kernel
theorem dX11_spans_132 : decode cX11_spans 132 = .ok (.lload 5, 2) := by decide +kernel
theorem dX11_spans_134 : decode cX11_spans 134 = .ok (.lload 7, 2) := by decide +kernel
theorem dX11_spans_136 : decode cX11_spans 136 = .ok (.lsub, 1) := by decide +kernel
theorem dX11_spans_137 : decode cX11_spans 137 = .ok (.aload_n 0, 1) := by decide +kernel
theorem dX11_spans_138 : decode cX11_spans 138 = .ok (.iload_n 1, 1) := by decide +kernel
theorem dX11_spans_139 : decode cX11_spans 139 = .ok (.iload 4, 2) := by decide +kernel
theorem dX11_spans_141 : decode cX11_spans 141 = .ok (.invokevirtual 260, 3) := by decide +kernel
theorem dX11_spans_144 : decode cX11_spans 144 = .ok (.i2l, 1) := by decide +kernel
theorem dX11_spans_145 : decode cX11_spans 145 = .ok (.lmul, 1) := by decide +kernel
theorem dX11_spans_146 : decode cX11_spans 146 = .ok (.aload_n 0, 1) := by decide +kernel
theorem dX11_spans_147 : decode cX11_spans 147 = .ok (.getfield 47, 3) := by decide +kernel
theorem dX11_spans_150 : decode cX11_spans 150 = .ok (.iload_n 1, 1) := by decide +kernel
theorem dX11_spans_151 : decode cX11_spans 151 = .ok (.iaload, 1) := by decide +kernel
theorem dX11_spans_152 : decode cX11_spans 152 = .ok (.i2l, 1) := by decide +kernel
theorem dX11_spans_153 : decode cX11_spans 153 = .ok (.invokestatic 204, 3) := by decide +kernel
theorem dX11_spans_156 : decode cX11_spans 156 = .ok (.ladd, 1) := by decide +kernel
theorem dX11_spans_157 : decode cX11_spans 157 = .ok (.iload_n 2, 1) := by decide +kernel
theorem dX11_spans_158 : decode cX11_spans 158 = .ok (.i2l, 1) := by decide +kernel
theorem dX11_spans_159 : decode cX11_spans 159 = .ok (.lsub, 1) := by decide +kernel
theorem dX11_spans_160 : decode cX11_spans 160 = .ok (.invokevirtual 264, 3) := by decide +kernel
theorem dX11_spans_163 : decode cX11_spans 163 = .ok (.putfield 289, 3) := by decide +kernel
theorem dX11_spans_166 : decode cX11_spans 166 = .ok (.aload_n 0, 1) := by decide +kernel
theorem dX11_spans_167 : decode cX11_spans 167 = .ok (.aload_n 0, 1) := by decide +kernel
theorem dX11_spans_168 : decode cX11_spans 168 = .ok (.iload_n 1, 1) := by decide +kernel
theorem dX11_spans_169 : decode cX11_spans 169 = .ok (.iload 4, 2) := by decide +kernel
theorem dX11_spans_171 : decode cX11_spans 171 = .ok (.lload 9, 2) := by decide +kernel
theorem dX11_spans_173 : decode cX11_spans 173 = .ok (.lload 5, 2) := by decide +kernel
theorem dX11_spans_175 : decode cX11_spans 175 = .ok (.lload 9, 2) := by decide +kernel
theorem dX11_spans_177 : decode cX11_spans 177 = .ok (.lsub, 1) := by decide +kernel
theorem dX11_spans_178 : decode cX11_spans 178 = .ok (.aload_n 0, 1) := by decide +kernel
theorem dX11_spans_179 : decode cX11_spans 179 = .ok (.iload_n 1, 1) := by decide +kernel
theorem dX11_spans_180 : decode cX11_spans 180 = .ok (.iload 4, 2) := by decide +kernel
theorem dX11_spans_182 : decode cX11_spans 182 = .ok (.invokevirtual 260, 3) := by decide +kernel
theorem dX11_spans_185 : decode cX11_spans 185 = .ok (.i2l, 1) := by decide +kernel
theorem dX11_spans_186 : decode cX11_spans 186 = .ok (.lmul, 1) := by decide +kernel
theorem dX11_spans_187 : decode cX11_spans 187 = .ok (.aload_n 0, 1) := by decide +kernel
theorem dX11_spans_188 : decode cX11_spans 188 = .ok (.getfield 47, 3) := by decide +kernel
theorem dX11_spans_191 : decode cX11_spans 191 = .ok (.iload_n 1, 1) := by decide +kernel
theorem dX11_spans_192 : decode cX11_spans 192 = .ok (.iaload, 1) := by decide +kernel
theorem dX11_spans_193 : decode cX11_spans 193 = .ok (.i2l, 1) := by decide +kernel
theorem dX11_spans_194 : decode cX11_spans 194 = .ok (.invokestatic 204, 3) := by decide +kernel
theorem dX11_spans_197 : decode cX11_spans 197 = .ok (.ladd, 1) := by decide +kernel
theorem dX11_spans_198 : decode cX11_spans 198 = .ok (.iload_n 2, 1) := by decide +kernel
theorem dX11_spans_199 : decode cX11_spans 199 = .ok (.i2l, 1) := by decide +kernel
theorem dX11_spans_200 : decode cX11_spans 200 = .ok (.ladd, 1) := by decide +kernel
theorem dX11_spans_201 : decode cX11_spans 201 = .ok (.invokevirtual 264, 3) := by decide +kernel
theorem dX11_spans_204 : decode cX11_spans 204 = .ok (.putfield 293, 3) := by decide +kernel
theorem dX11_spans_207 : decode cX11_spans 207 = .ok (.iinc 4 1, 3) := by decide +kernel
theorem dX11_spans_210 : decode cX11_spans 210 = .ok (.goto (-171), 3) := by decide +kernel
theorem dX11_spans_213 : decode cX11_spans 213 = .ok (.return_, 1) := by decide +kernel
theorem dX11_span_0 : decode cX11_span 0 = .ok (.aload_n 0, 1) := by decide +kernel
theorem dX11_span_1 : decode cX11_span 1 = .ok (.getfield 65, 3) := by decide +kernel
theorem dX11_span_4 : decode cX11_span 4 = .ok (.iconst (-1), 1) := by decide +kernel
theorem dX11_span_5 : decode cX11_span 5 = .ok (.if_icmp .eq 15, 3) := by decide +kernel
theorem dX11_span_8 : decode cX11_span 8 = .ok (.iload_n 1, 1) := by decide +kernel
theorem dX11_span_9 : decode cX11_span 9 = .ok (.i2l, 1) := by decide +kernel
theorem dX11_span_10 : decode cX11_span 10 = .ok (.lconst 0, 1) := by decide +kernel
theorem dX11_span_11 : decode cX11_span 11 = .ok (.ldc2_w 214, 3) := by decide +kernel
theorem dX11_span_14 : decode cX11_span 14 = .ok (.invokestatic 139, 3) := by decide +kernel
theorem dX11_span_17 : decode cX11_span 17 = .ok (.ifCond .ne 6, 3) := by decide +kernel
theorem dX11_span_20 : decode cX11_span 20 = .ok (.ldc 189, 2) := by decide +kernel
theorem dX11_span_22 : decode cX11_span 22 = .ok (.ireturn, 1) := by decide +kernel
theorem dX11_span_23 : decode cX11_span 23 = .ok (.aload_n 0, 1) := by decide +kernel
theorem dX11_span_24 : decode cX11_span 24 = .ok (.aload_n 0, 1) := by decide +kernel
theorem dX11_span_25 : decode cX11_span 25 = .ok (.getfield 69, 3) := by decide +kernel
theorem dX11_span_28 : decode cX11_span 28 = .ok (.iconst 0, 1) := by decide +kernel
theorem dX11_span_29 : decode cX11_span 29 = .ok (.invokevirtual 271, 3) := by decide +kernel
theorem dX11_span_32 : decode cX11_span 32 = .ok (.iconst 0, 1) := by decide +kernel
theorem dX11_span_33 : decode cX11_span 33 = .ok (.istore_n 3, 1) := by decide +kernel
theorem dX11_span_34 : decode cX11_span 34 = .ok (.iload_n 3, 1) := by decide +kernel
theorem dX11_span_35 : decode cX11_span 35 = .ok (.iconst 4, 1) := by decide +kernel
theorem dX11_span_36 : decode cX11_span 36 = .ok (.if_icmp .ge 28, 3) := by decide +kernel
theorem dX11_span_39 : decode cX11_span 39 = .ok (.aload_n 0, 1) := by decide +kernel
theorem dX11_span_40 : decode cX11_span 40 = .ok (.getfield 121, 3) := by decide +kernel
theorem dX11_span_43 : decode cX11_span 43 = .ok (.iload_n 3, 1) := by decide +kernel
theorem dX11_span_44 : decode cX11_span 44 = .ok (.aload_n 0, 1) := by decide +kernel
theorem dX11_span_45 : decode cX11_span 45 = .ok (.getfield 44, 3) := by decide +kernel
theorem dX11_span_48 : decode cX11_span 48 = .ok (.iconst 4, 1) := by decide +kernel
theorem dX11_span_49 : decode cX11_span 49 = .ok (.aload_n 0, 1) := by decide +kernel
theorem dX11_span_50 : decode cX11_span 50 = .ok (.getfield 65, 3) := by decide +kernel
theorem dX11_span_53 : decode cX11_span 53 = .ok (.imul, 1) := by decide +kernel
theorem dX11_span_54 : decode cX11_span 54 = .ok (.iload_n 3, 1) := by decide +kernel
theorem dX11_span_55 : decode cX11_span 55 = .ok (.iadd, 1) := by decide +kernel
theorem dX11_span_56 : decode cX11_span 56 = .ok (.iaload, 1) := by decide +kernel
theorem dX11_span_57 : decode cX11_span 57 = .ok (.iastore, 1) := by decide +kernel
theorem dX11_span_58 : decode cX11_span 58 = .ok (.iinc 3 1, 3) := by decide +kernel
theorem dX11_span_61 : decode cX11_span 61 = .ok (.goto (-27), 3) := by decide +kernel
theorem dX11_span_64 : decode cX11_span 64 = .ok (.aload_n 0, 1) := by decide +kernel
theorem dX11_span_65 : decode cX11_span 65 = .ok (.aload_n 0, 1) := by decide +kernel
theorem dX11_span_66 : decode cX11_span 66 = .ok (.getfield 65, 3) := by decide +kernel
theorem dX11_span_69 : decode cX11_span 69 = .ok (.iload_n 1, 1) := by decide +kernel
theorem dX11_span_70 : decode cX11_span 70 = .ok (.invokevirtual 296, 3) := by decide +kernel
theorem dX11_span_73 : decode cX11_span 73 = .ok (.iload_n 2, 1) := by decide +kernel
theorem dX11_span_74 : decode cX11_span 74 = .ok (.ifCond .eq 10, 3) := by decide +kernel
theorem dX11_span_77 : decode cX11_span 77 = .ok (.aload_n 0, 1) := by decide +kernel
theorem dX11_span_78 : decode cX11_span 78 = .ok (.getfield 293, 3) := by decide +kernel
theorem dX11_span_81 : decode cX11_span 81 = .ok (.goto 7, 3) := by decide +kernel
theorem dX11_span_84 : decode cX11_span 84 = .ok (.aload_n 0, 1) := by decide +kernel
theorem dX11_span_85 : decode cX11_span 85 = .ok (.getfield 289, 3) := by decide +kernel
theorem dX11_span_88 : decode cX11_span 88 = .ok (.l2i, 1) := by decide +kernel
theorem dX11_span_89 : decode cX11_span 89 = .ok (.ireturn, 1) := by decide +kernel
theorem dX11_widest_0 : decode cX11_widest 0 = .ok (.aload_n 0, 1) := by decide +kernel
theorem dX11_widest_1 : decode cX11_widest 1 = .ok (.getfield 41, 3) := by decide +kernel
theorem dX11_widest_4 : decode cX11_widest 4 = .ok (.iload_n 1, 1) := by decide +kernel
theorem dX11_widest_5 : decode cX11_widest 5 = .ok (.iaload, 1) := by decide +kernel
theorem dX11_widest_6 : decode cX11_widest 6 = .ok (.istore_n 3, 1) := by decide +kernel
theorem dX11_widest_7 : decode cX11_widest 7 = .ok (.aload_n 0, 1) := by decide +kernel
theorem dX11_widest_8 : decode cX11_widest 8 = .ok (.getfield 23, 3) := by decide +kernel
theorem dX11_widest_11 : decode cX11_widest 11 = .ok (.iload_n 3, 1) := by decide +kernel
theorem dX11_widest_12 : decode cX11_widest 12 = .ok (.iaload, 1) := by decide +kernel
theorem dX11_widest_13 : decode cX11_widest 13 = .ok (.iconst 1, 1) := by decide +kernel
theorem dX11_widest_14 : decode cX11_widest 14 = .ok (.isub, 1) := by decide +kernel
theorem dX11_widest_15 : decode cX11_widest 15 = .ok (.istore 4, 2) := by decide +kernel
theorem dX11_widest_17 : decode cX11_widest 17 = .ok (.lconst 0, 1) := by decide +kernel
theorem dX11_widest_18 : decode cX11_widest 18 = .ok (.lstore 5, 2) := by decide +kernel
theorem dX11_widest_20 : decode cX11_widest 20 = .ok (.iconst 0, 1) := by decide +kernel
theorem dX11_widest_21 : decode cX11_widest 21 = .ok (.istore 7, 2) := by decide +kernel
theorem dX11_widest_23 : decode cX11_widest 23 = .ok (.iload 7, 2) := by decide +kernel
theorem dX11_widest_25 : decode cX11_widest 25 = .ok (.iconst 1, 1) := by decide +kernel
theorem dX11_widest_26 : decode cX11_widest 26 = .ok (.iload 4, 2) := by decide +kernel
theorem dX11_widest_28 : decode cX11_widest 28 = .ok (.ishl, 1) := by decide +kernel
theorem dX11_widest_29 : decode cX11_widest 29 = .ok (.if_icmp .ge 96, 3) := by decide +kernel
theorem dX11_widest_32 : decode cX11_widest 32 = .ok (.iconst 0, 1) := by decide +kernel
theorem dX11_widest_33 : decode cX11_widest 33 = .ok (.istore 8, 2) := by decide +kernel
theorem dX11_widest_35 : decode cX11_widest 35 = .ok (.iload 8, 2) := by decide +kernel
theorem dX11_widest_37 : decode cX11_widest 37 = .ok (.iload 4, 2) := by decide +kernel
theorem dX11_widest_39 : decode cX11_widest 39 = .ok (.if_icmp .ge 48, 3) := by decide +kernel
theorem dX11_widest_42 : decode cX11_widest 42 = .ok (.aload_n 0, 1) := by decide +kernel
theorem dX11_widest_43 : decode cX11_widest 43 = .ok (.getfield 105, 3) := by decide +kernel
theorem dX11_widest_46 : decode cX11_widest 46 = .ok (.iload 8, 2) := by decide +kernel
theorem dX11_widest_48 : decode cX11_widest 48 = .ok (.iload 7, 2) := by decide +kernel
theorem dX11_widest_50 : decode cX11_widest 50 = .ok (.iload 8, 2) := by decide +kernel
theorem dX11_widest_52 : decode cX11_widest 52 = .ok (.ishr, 1) := by decide +kernel
theorem dX11_widest_53 : decode cX11_widest 53 = .ok (.iconst 1, 1) := by decide +kernel
theorem dX11_widest_54 : decode cX11_widest 54 = .ok (.iand, 1) := by decide +kernel
theorem dX11_widest_55 : decode cX11_widest 55 = .ok (.ifCond .ne 7, 3) := by decide +kernel
theorem dX11_widest_58 : decode cX11_widest 58 = .ok (.iconst 0, 1) := by decide +kernel
theorem dX11_widest_59 : decode cX11_widest 59 = .ok (.goto 21, 3) := by decide +kernel
theorem dX11_widest_62 : decode cX11_widest 62 = .ok (.aload_n 0, 1) := by decide +kernel
theorem dX11_widest_63 : decode cX11_widest 63 = .ok (.getfield 35, 3) := by decide +kernel
theorem dX11_widest_66 : decode cX11_widest 66 = .ok (.iconst 5, 1) := by decide +kernel
theorem dX11_widest_67 : decode cX11_widest 67 = .ok (.iload_n 3, 1) := by decide +kernel
theorem dX11_widest_68 : decode cX11_widest 68 = .ok (.imul, 1) := by decide +kernel
theorem dX11_widest_69 : decode cX11_widest 69 = .ok (.aload_n 0, 1) := by decide +kernel
theorem dX11_widest_70 : decode cX11_widest 70 = .ok (.getfield 121, 3) := by decide +kernel
theorem dX11_widest_73 : decode cX11_widest 73 = .ok (.iload 8, 2) := by decide +kernel
theorem dX11_widest_75 : decode cX11_widest 75 = .ok (.iaload, 1) := by decide +kernel
theorem dX11_widest_76 : decode cX11_widest 76 = .ok (.iadd, 1) := by decide +kernel
theorem dX11_widest_77 : decode cX11_widest 77 = .ok (.iaload, 1) := by decide +kernel
theorem dX11_widest_78 : decode cX11_widest 78 = .ok (.iconst 1, 1) := by decide +kernel
theorem dX11_widest_79 : decode cX11_widest 79 = .ok (.isub, 1) := by decide +kernel
theorem dX11_widest_80 : decode cX11_widest 80 = .ok (.iastore, 1) := by decide +kernel
theorem dX11_widest_81 : decode cX11_widest 81 = .ok (.iinc 8 1, 3) := by decide +kernel
theorem dX11_widest_84 : decode cX11_widest 84 = .ok (.goto (-49), 3) := by decide +kernel
theorem dX11_widest_87 : decode cX11_widest 87 = .ok (.aload_n 0, 1) := by decide +kernel
theorem dX11_widest_88 : decode cX11_widest 88 = .ok (.iload_n 1, 1) := by decide +kernel
theorem dX11_widest_89 : decode cX11_widest 89 = .ok (.iload_n 2, 1) := by decide +kernel
theorem dX11_widest_90 : decode cX11_widest 90 = .ok (.invokevirtual 296, 3) := by decide +kernel
theorem dX11_widest_93 : decode cX11_widest 93 = .ok (.aload_n 0, 1) := by decide +kernel
theorem dX11_widest_94 : decode cX11_widest 94 = .ok (.getfield 293, 3) := by decide +kernel
theorem dX11_widest_97 : decode cX11_widest 97 = .ok (.aload_n 0, 1) := by decide +kernel
theorem dX11_widest_98 : decode cX11_widest 98 = .ok (.getfield 289, 3) := by decide +kernel
theorem dX11_widest_101 : decode cX11_widest 101 = .ok (.lsub, 1) := by decide +kernel
theorem dX11_widest_102 : decode cX11_widest 102 = .ok (.lload 5, 2) := by decide +kernel
theorem dX11_widest_104 : decode cX11_widest 104 = .ok (.lcmp, 1) := by decide +kernel
theorem dX11_widest_105 : decode cX11_widest 105 = .ok (.ifCond .le 14, 3) := by decide +kernel
theorem dX11_widest_108 : decode cX11_widest 108 = .ok (.aload_n 0, 1) := by decide +kernel
theorem dX11_widest_109 : decode cX11_widest 109 = .ok (.getfield 293, 3) := by decide +kernel
theorem dX11_widest_112 : decode cX11_widest 112 = .ok (.aload_n 0, 1) := by decide +kernel
theorem dX11_widest_113 : decode cX11_widest 113 = .ok (.getfield 289, 3) := by decide +kernel
theorem dX11_widest_116 : decode cX11_widest 116 = .ok (.lsub, 1) := by decide +kernel
theorem dX11_widest_117 : decode cX11_widest 117 = .ok (.lstore 5, 2) := by decide +kernel
theorem dX11_widest_119 : decode cX11_widest 119 = .ok (.iinc 7 1, 3) := by decide +kernel
theorem dX11_widest_122 : decode cX11_widest 122 = .ok (.goto (-99), 3) := by decide +kernel
theorem dX11_widest_125 : decode cX11_widest 125 = .ok (.lload 5, 2) := by decide +kernel
theorem dX11_widest_127 : decode cX11_widest 127 = .ok (.lreturn, 1) := by decide +kernel
theorem dX11_sharpest_0 : decode cX11_sharpest 0 = .ok (.aload_n 0, 1) := by decide +kernel
theorem dX11_sharpest_1 : decode cX11_sharpest 1 = .ok (.iload_n 1, 1) := by decide +kernel
theorem dX11_sharpest_2 : decode cX11_sharpest 2 = .ok (.invokevirtual 221, 3) := by decide +kernel
theorem dX11_sharpest_5 : decode cX11_sharpest 5 = .ok (.ifCond .eq 25, 3) := by decide +kernel
theorem dX11_sharpest_8 : decode cX11_sharpest 8 = .ok (.iload_n 2, 1) := by decide +kernel
theorem dX11_sharpest_9 : decode cX11_sharpest 9 = .ok (.i2l, 1) := by decide +kernel
theorem dX11_sharpest_10 : decode cX11_sharpest 10 = .ok (.lconst 0, 1) := by decide +kernel
theorem dX11_sharpest_11 : decode cX11_sharpest 11 = .ok (.ldc2_w 214, 3) := by decide +kernel
theorem dX11_sharpest_14 : decode cX11_sharpest 14 = .ok (.invokestatic 139, 3) := by decide +kernel
theorem dX11_sharpest_17 : decode cX11_sharpest 17 = .ok (.ifCond .eq 13, 3) := by decide +kernel
theorem dX11_sharpest_20 : decode cX11_sharpest 20 = .ok (.iload_n 3, 1) := by decide +kernel
theorem dX11_sharpest_21 : decode cX11_sharpest 21 = .ok (.i2l, 1) := by decide +kernel
theorem dX11_sharpest_22 : decode cX11_sharpest 22 = .ok (.lconst 0, 1) := by decide +kernel
theorem dX11_sharpest_23 : decode cX11_sharpest 23 = .ok (.lconst 1, 1) := by decide +kernel
theorem dX11_sharpest_24 : decode cX11_sharpest 24 = .ok (.invokestatic 139, 3) := by decide +kernel
theorem dX11_sharpest_27 : decode cX11_sharpest 27 = .ok (.ifCond .ne 5, 3) := by decide +kernel
theorem dX11_sharpest_30 : decode cX11_sharpest 30 = .ok (.iconst (-1), 1) := by decide +kernel
theorem dX11_sharpest_31 : decode cX11_sharpest 31 = .ok (.ireturn, 1) := by decide +kernel
theorem dX11_sharpest_32 : decode cX11_sharpest 32 = .ok (.aload_n 0, 1) := by decide +kernel
theorem dX11_sharpest_33 : decode cX11_sharpest 33 = .ok (.getfield 23, 3) := by decide +kernel
theorem dX11_sharpest_36 : decode cX11_sharpest 36 = .ok (.aload_n 0, 1) := by decide +kernel
theorem dX11_sharpest_37 : decode cX11_sharpest 37 = .ok (.getfield 41, 3) := by decide +kernel
theorem dX11_sharpest_40 : decode cX11_sharpest 40 = .ok (.iload_n 1, 1) := by decide +kernel
theorem dX11_sharpest_41 : decode cX11_sharpest 41 = .ok (.iaload, 1) := by decide +kernel
theorem dX11_sharpest_42 : decode cX11_sharpest 42 = .ok (.iaload, 1) := by decide +kernel
theorem dX11_sharpest_43 : decode cX11_sharpest 43 = .ok (.iconst 1, 1) := by decide +kernel
theorem dX11_sharpest_44 : decode cX11_sharpest 44 = .ok (.isub, 1) := by decide +kernel
theorem dX11_sharpest_45 : decode cX11_sharpest 45 = .ok (.istore 4, 2) := by decide +kernel
theorem dX11_sharpest_47 : decode cX11_sharpest 47 = .ok (.iconst (-1), 1) := by decide +kernel
theorem dX11_sharpest_48 : decode cX11_sharpest 48 = .ok (.istore 5, 2) := by decide +kernel
theorem dX11_sharpest_50 : decode cX11_sharpest 50 = .ok (.lconst 0, 1) := by decide +kernel
theorem dX11_sharpest_51 : decode cX11_sharpest 51 = .ok (.lstore 6, 2) := by decide +kernel
theorem dX11_sharpest_53 : decode cX11_sharpest 53 = .ok (.iload 4, 2) := by decide +kernel
theorem dX11_sharpest_55 : decode cX11_sharpest 55 = .ok (.iconst 2, 1) := by decide +kernel
theorem dX11_sharpest_56 : decode cX11_sharpest 56 = .ok (.if_icmp .ne 8, 3) := by decide +kernel
theorem dX11_sharpest_59 : decode cX11_sharpest 59 = .ok (.bipush 12, 2) := by decide +kernel
theorem dX11_sharpest_61 : decode cX11_sharpest 61 = .ok (.goto 17, 3) := by decide +kernel
theorem dX11_sharpest_64 : decode cX11_sharpest 64 = .ok (.iload 4, 2) := by decide +kernel
theorem dX11_sharpest_66 : decode cX11_sharpest 66 = .ok (.iconst 3, 1) := by decide +kernel
theorem dX11_sharpest_67 : decode cX11_sharpest 67 = .ok (.if_icmp .ne 8, 3) := by decide +kernel
theorem dX11_sharpest_70 : decode cX11_sharpest 70 = .ok (.bipush 123, 2) := by decide +kernel
theorem dX11_sharpest_72 : decode cX11_sharpest 72 = .ok (.goto 6, 3) := by decide +kernel
theorem dX11_sharpest_75 : decode cX11_sharpest 75 = .ok (.sipush 1234, 3) := by decide +kernel
theorem dX11_sharpest_78 : decode cX11_sharpest 78 = .ok (.istore 8, 2) := by decide +kernel
theorem dX11_sharpest_80 : decode cX11_sharpest 80 = .ok (.iload 4, 2) := by decide +kernel
theorem dX11_sharpest_82 : decode cX11_sharpest 82 = .ok (.iconst 2, 1) := by decide +kernel
theorem dX11_sharpest_83 : decode cX11_sharpest 83 = .ok (.if_icmp .ne 8, 3) := by decide +kernel
theorem dX11_sharpest_86 : decode cX11_sharpest 86 = .ok (.bipush 21, 2) := by decide +kernel
theorem dX11_sharpest_88 : decode cX11_sharpest 88 = .ok (.goto 18, 3) := by decide +kernel
theorem dX11_sharpest_91 : decode cX11_sharpest 91 = .ok (.iload 4, 2) := by decide +kernel
theorem dX11_sharpest_93 : decode cX11_sharpest 93 = .ok (.iconst 3, 1) := by decide +kernel
theorem dX11_sharpest_94 : decode cX11_sharpest 94 = .ok (.if_icmp .ne 9, 3) := by decide +kernel
theorem dX11_sharpest_97 : decode cX11_sharpest 97 = .ok (.sipush 321, 3) := by decide +kernel
theorem dX11_sharpest_100 : decode cX11_sharpest 100 = .ok (.goto 6, 3) := by decide +kernel
theorem dX11_sharpest_103 : decode cX11_sharpest 103 = .ok (.sipush 4321, 3) := by decide +kernel
theorem dX11_sharpest_106 : decode cX11_sharpest 106 = .ok (.istore 9, 2) := by decide +kernel
theorem dX11_sharpest_108 : decode cX11_sharpest 108 = .ok (.iload 8, 2) := by decide +kernel
theorem dX11_sharpest_110 : decode cX11_sharpest 110 = .ok (.istore 10, 2) := by decide +kernel
theorem dX11_sharpest_112 : decode cX11_sharpest 112 = .ok (.iload 10, 2) := by decide +kernel
theorem dX11_sharpest_114 : decode cX11_sharpest 114 = .ok (.iload 9, 2) := by decide +kernel
theorem dX11_sharpest_116 : decode cX11_sharpest 116 = .ok (.if_icmp .gt 133, 3) := by decide +kernel
theorem dX11_sharpest_119 : decode cX11_sharpest 119 = .ok (.iload 10, 2) := by decide +kernel
theorem dX11_sharpest_121 : decode cX11_sharpest 121 = .ok (.istore 11, 2) := by decide +kernel
theorem dX11_sharpest_123 : decode cX11_sharpest 123 = .ok (.iconst 0, 1) := by decide +kernel
theorem dX11_sharpest_124 : decode cX11_sharpest 124 = .ok (.istore 12, 2) := by decide +kernel
theorem dX11_sharpest_126 : decode cX11_sharpest 126 = .ok (.iload 4, 2) := by decide +kernel
theorem dX11_sharpest_128 : decode cX11_sharpest 128 = .ok (.iconst 1, 1) := by decide +kernel
theorem dX11_sharpest_129 : decode cX11_sharpest 129 = .ok (.isub, 1) := by decide +kernel
theorem dX11_sharpest_130 : decode cX11_sharpest 130 = .ok (.istore 13, 2) := by decide +kernel
theorem dX11_sharpest_132 : decode cX11_sharpest 132 = .ok (.iload 13, 2) := by decide +kernel
theorem dX11_sharpest_134 : decode cX11_sharpest 134 = .ok (.ifCond .lt 60, 3) := by decide +kernel
theorem dX11_sharpest_137 : decode cX11_sharpest 137 = .ok (.aload_n 0, 1) := by decide +kernel
theorem dX11_sharpest_138 : decode cX11_sharpest 138 = .ok (.getfield 121, 3) := by decide +kernel
theorem dX11_sharpest_141 : decode cX11_sharpest 141 = .ok (.iload 13, 2) := by decide +kernel
theorem dX11_sharpest_143 : decode cX11_sharpest 143 = .ok (.iload 11, 2) := by decide +kernel
theorem dX11_sharpest_145 : decode cX11_sharpest 145 = .ok (.bipush 10, 2) := by decide +kernel
theorem dX11_sharpest_147 : decode cX11_sharpest 147 = .ok (.irem, 1) := by decide +kernel
theorem dX11_sharpest_148 : decode cX11_sharpest 148 = .ok (.iastore, 1) := by decide +kernel
theorem dX11_sharpest_149 : decode cX11_sharpest 149 = .ok (.iload 11, 2) := by decide +kernel
theorem dX11_sharpest_151 : decode cX11_sharpest 151 = .ok (.bipush 10, 2) := by decide +kernel
theorem dX11_sharpest_153 : decode cX11_sharpest 153 = .ok (.idiv, 1) := by decide +kernel
theorem dX11_sharpest_154 : decode cX11_sharpest 154 = .ok (.istore 11, 2) := by decide +kernel
theorem dX11_sharpest_156 : decode cX11_sharpest 156 = .ok (.aload_n 0, 1) := by decide +kernel
theorem dX11_sharpest_157 : decode cX11_sharpest 157 = .ok (.getfield 121, 3) := by decide +kernel
theorem dX11_sharpest_160 : decode cX11_sharpest 160 = .ok (.iload 13, 2) := by decide +kernel
theorem dX11_sharpest_162 : decode cX11_sharpest 162 = .ok (.iaload, 1) := by decide +kernel
theorem dX11_sharpest_163 : decode cX11_sharpest 163 = .ok (.i2l, 1) := by decide +kernel
theorem dX11_sharpest_164 : decode cX11_sharpest 164 = .ok (.lconst 1, 1) := by decide +kernel
theorem dX11_sharpest_165 : decode cX11_sharpest 165 = .ok (.iload 4, 2) := by decide +kernel
theorem dX11_sharpest_167 : decode cX11_sharpest 167 = .ok (.i2l, 1) := by decide +kernel
theorem dX11_sharpest_168 : decode cX11_sharpest 168 = .ok (.invokestatic 139, 3) := by decide +kernel
theorem dX11_sharpest_171 : decode cX11_sharpest 171 = .ok (.ifCond .eq 17, 3) := by decide +kernel
theorem dX11_sharpest_174 : decode cX11_sharpest 174 = .ok (.iload 12, 2) := by decide +kernel
theorem dX11_sharpest_176 : decode cX11_sharpest 176 = .ok (.iconst 1, 1) := by decide +kernel
theorem dX11_sharpest_177 : decode cX11_sharpest 177 = .ok (.aload_n 0, 1) := by decide +kernel
theorem dX11_sharpest_178 : decode cX11_sharpest 178 = .ok (.getfield 121, 3) := by decide +kernel
theorem dX11_sharpest_181 : decode cX11_sharpest 181 = .ok (.iload 13, 2) := by decide +kernel
theorem dX11_sharpest_183 : decode cX11_sharpest 183 = .ok (.iaload, 1) := by decide +kernel
theorem dX11_sharpest_184 : decode cX11_sharpest 184 = .ok (.ishl, 1) := by decide +kernel
theorem dX11_sharpest_185 : decode cX11_sharpest 185 = .ok (.ior, 1) := by decide +kernel
theorem dX11_sharpest_186 : decode cX11_sharpest 186 = .ok (.istore 12, 2) := by decide +kernel
theorem dX11_sharpest_188 : decode cX11_sharpest 188 = .ok (.iinc 13 (-1), 3) := by decide +kernel
theorem dX11_sharpest_191 : decode cX11_sharpest 191 = .ok (.goto (-59), 3) := by decide +kernel
theorem dX11_sharpest_194 : decode cX11_sharpest 194 = .ok (.iload 12, 2) := by decide +kernel
theorem dX11_sharpest_196 : decode cX11_sharpest 196 = .ok (.iconst 1, 1) := by decide +kernel
theorem dX11_sharpest_197 : decode cX11_sharpest 197 = .ok (.iload 4, 2) := by decide +kernel
theorem dX11_sharpest_199 : decode cX11_sharpest 199 = .ok (.iconst 1, 1) := by decide +kernel
theorem dX11_sharpest_200 : decode cX11_sharpest 200 = .ok (.iadd, 1) := by decide +kernel
theorem dX11_sharpest_201 : decode cX11_sharpest 201 = .ok (.ishl, 1) := by decide +kernel
theorem dX11_sharpest_202 : decode cX11_sharpest 202 = .ok (.iconst 2, 1) := by decide +kernel
theorem dX11_sharpest_203 : decode cX11_sharpest 203 = .ok (.isub, 1) := by decide +kernel
theorem dX11_sharpest_204 : decode cX11_sharpest 204 = .ok (.if_icmp .eq 6, 3) := by decide +kernel
theorem dX11_sharpest_207 : decode cX11_sharpest 207 = .ok (.goto 36, 3) := by decide +kernel
theorem dX11_sharpest_210 : decode cX11_sharpest 210 = .ok (.aload_n 0, 1) := by decide +kernel
theorem dX11_sharpest_211 : decode cX11_sharpest 211 = .ok (.iload_n 1, 1) := by decide +kernel
theorem dX11_sharpest_212 : decode cX11_sharpest 212 = .ok (.iload_n 2, 1) := by decide +kernel
theorem dX11_sharpest_213 : decode cX11_sharpest 213 = .ok (.invokevirtual 300, 3) := by decide +kernel
theorem dX11_sharpest_216 : decode cX11_sharpest 216 = .ok (.lstore 13, 2) := by decide +kernel
theorem dX11_sharpest_218 : decode cX11_sharpest 218 = .ok (.iload 5, 2) := by decide +kernel
theorem dX11_sharpest_220 : decode cX11_sharpest 220 = .ok (.iconst (-1), 1) := by decide +kernel
theorem dX11_sharpest_221 : decode cX11_sharpest 221 = .ok (.if_icmp .eq 14, 3) := by decide +kernel
theorem dX11_sharpest_224 : decode cX11_sharpest 224 = .ok (.lload 13, 2) := by decide +kernel
theorem dX11_sharpest_226 : decode cX11_sharpest 226 = .ok (.lload 6, 2) := by decide +kernel
theorem dX11_sharpest_228 : decode cX11_sharpest 228 = .ok (.lcmp, 1) := by decide +kernel
theorem dX11_sharpest_229 : decode cX11_sharpest 229 = .ok (.ifCond .lt 6, 3) := by decide +kernel
theorem dX11_sharpest_232 : decode cX11_sharpest 232 = .ok (.goto 11, 3) := by decide +kernel
theorem dX11_sharpest_235 : decode cX11_sharpest 235 = .ok (.iload 10, 2) := by decide +kernel
theorem dX11_sharpest_237 : decode cX11_sharpest 237 = .ok (.istore 5, 2) := by decide +kernel
theorem dX11_sharpest_239 : decode cX11_sharpest 239 = .ok (.lload 13, 2) := by decide +kernel
theorem dX11_sharpest_241 : decode cX11_sharpest 241 = .ok (.lstore 6, 2) := by decide +kernel
theorem dX11_sharpest_243 : decode cX11_sharpest 243 = .ok (.iinc 10 1, 3) := by decide +kernel
theorem dX11_sharpest_246 : decode cX11_sharpest 246 = .ok (.goto (-134), 3) := by decide +kernel
theorem dX11_sharpest_249 : decode cX11_sharpest 249 = .ok (.iload_n 3, 1) := by decide +kernel
theorem dX11_sharpest_250 : decode cX11_sharpest 250 = .ok (.ifCond .ne 8, 3) := by decide +kernel
theorem dX11_sharpest_253 : decode cX11_sharpest 253 = .ok (.iload 5, 2) := by decide +kernel
theorem dX11_sharpest_255 : decode cX11_sharpest 255 = .ok (.goto 6, 3) := by decide +kernel
theorem dX11_sharpest_258 : decode cX11_sharpest 258 = .ok (.lload 6, 2) := by decide +kernel
theorem dX11_sharpest_260 : decode cX11_sharpest 260 = .ok (.l2i, 1) := by decide +kernel
theorem dX11_sharpest_261 : decode cX11_sharpest 261 = .ok (.ireturn, 1) := by decide +kernel
theorem dX11_holds_0 : decode cX11_holds 0 = .ok (.lload_n 1, 1) := by decide +kernel
theorem dX11_holds_1 : decode cX11_holds 1 = .ok (.aload_n 0, 1) := by decide +kernel
theorem dX11_holds_2 : decode cX11_holds 2 = .ok (.getfield 303, 3) := by decide +kernel
theorem dX11_holds_5 : decode cX11_holds 5 = .ok (.lcmp, 1) := by decide +kernel
theorem dX11_holds_6 : decode cX11_holds 6 = .ok (.ifCond .ge 8, 3) := by decide +kernel
theorem dX11_holds_9 : decode cX11_holds 9 = .ok (.aload_n 0, 1) := by decide +kernel
theorem dX11_holds_10 : decode cX11_holds 10 = .ok (.lload_n 1, 1) := by decide +kernel
theorem dX11_holds_11 : decode cX11_holds 11 = .ok (.putfield 303, 3) := by decide +kernel
theorem dX11_holds_14 : decode cX11_holds 14 = .ok (.lload_n 1, 1) := by decide +kernel
theorem dX11_holds_15 : decode cX11_holds 15 = .ok (.aload_n 0, 1) := by decide +kernel
theorem dX11_holds_16 : decode cX11_holds 16 = .ok (.getfield 306, 3) := by decide +kernel
theorem dX11_holds_19 : decode cX11_holds 19 = .ok (.lcmp, 1) := by decide +kernel
theorem dX11_holds_20 : decode cX11_holds 20 = .ok (.ifCond .le 8, 3) := by decide +kernel
theorem dX11_holds_23 : decode cX11_holds 23 = .ok (.aload_n 0, 1) := by decide +kernel
theorem dX11_holds_24 : decode cX11_holds 24 = .ok (.lload_n 1, 1) := by decide +kernel
theorem dX11_holds_25 : decode cX11_holds 25 = .ok (.putfield 306, 3) := by decide +kernel
theorem dX11_holds_28 : decode cX11_holds 28 = .ok (.return_, 1) := by decide +kernel
theorem dX11_tall_0 : decode cX11_tall 0 = .ok (.aload_n 0, 1) := by decide +kernel
theorem dX11_tall_1 : decode cX11_tall 1 = .ok (.getfield 41, 3) := by decide +kernel
theorem dX11_tall_4 : decode cX11_tall 4 = .ok (.iload_n 1, 1) := by decide +kernel
theorem dX11_tall_5 : decode cX11_tall 5 = .ok (.iaload, 1) := by decide +kernel
theorem dX11_tall_6 : decode cX11_tall 6 = .ok (.istore 7, 2) := by decide +kernel
theorem dX11_tall_8 : decode cX11_tall 8 = .ok (.aload_n 0, 1) := by decide +kernel
theorem dX11_tall_9 : decode cX11_tall 9 = .ok (.ldc2_w 309, 3) := by decide +kernel
theorem dX11_tall_12 : decode cX11_tall 12 = .ok (.putfield 303, 3) := by decide +kernel
theorem dX11_tall_15 : decode cX11_tall 15 = .ok (.aload_n 0, 1) := by decide +kernel
theorem dX11_tall_16 : decode cX11_tall 16 = .ok (.ldc2_w 311, 3) := by decide +kernel
theorem dX11_tall_19 : decode cX11_tall 19 = .ok (.putfield 306, 3) := by decide +kernel
theorem dX11_tall_22 : decode cX11_tall 22 = .ok (.lconst 0, 1) := by decide +kernel
theorem dX11_tall_23 : decode cX11_tall 23 = .ok (.lstore 8, 2) := by decide +kernel
theorem dX11_tall_25 : decode cX11_tall 25 = .ok (.lconst 0, 1) := by decide +kernel
theorem dX11_tall_26 : decode cX11_tall 26 = .ok (.lstore 10, 2) := by decide +kernel
theorem dX11_tall_28 : decode cX11_tall 28 = .ok (.iconst 0, 1) := by decide +kernel
theorem dX11_tall_29 : decode cX11_tall 29 = .ok (.istore 12, 2) := by decide +kernel
theorem dX11_tall_31 : decode cX11_tall 31 = .ok (.iload 12, 2) := by decide +kernel
theorem dX11_tall_33 : decode cX11_tall 33 = .ok (.iload_n 2, 1) := by decide +kernel
theorem dX11_tall_34 : decode cX11_tall 34 = .ok (.iconst 1, 1) := by decide +kernel
theorem dX11_tall_35 : decode cX11_tall 35 = .ok (.iadd, 1) := by decide +kernel
theorem dX11_tall_36 : decode cX11_tall 36 = .ok (.if_icmp .gt 164, 3) := by decide +kernel
theorem dX11_tall_39 : decode cX11_tall 39 = .ok (.aload_n 0, 1) := by decide +kernel
theorem dX11_tall_40 : decode cX11_tall 40 = .ok (.getfield 44, 3) := by decide +kernel
theorem dX11_tall_43 : decode cX11_tall 43 = .ok (.iconst 4, 1) := by decide +kernel
theorem dX11_tall_44 : decode cX11_tall 44 = .ok (.iload_n 1, 1) := by decide +kernel
theorem dX11_tall_45 : decode cX11_tall 45 = .ok (.imul, 1) := by decide +kernel
theorem dX11_tall_46 : decode cX11_tall 46 = .ok (.iload 12, 2) := by decide +kernel
theorem dX11_tall_48 : decode cX11_tall 48 = .ok (.iadd, 1) := by decide +kernel
theorem dX11_tall_49 : decode cX11_tall 49 = .ok (.iaload, 1) := by decide +kernel
theorem dX11_tall_50 : decode cX11_tall 50 = .ok (.istore 13, 2) := by decide +kernel
theorem dX11_tall_52 : decode cX11_tall 52 = .ok (.aload_n 0, 1) := by decide +kernel
theorem dX11_tall_53 : decode cX11_tall 53 = .ok (.iload 7, 2) := by decide +kernel
theorem dX11_tall_55 : decode cX11_tall 55 = .ok (.iload 13, 2) := by decide +kernel
theorem dX11_tall_57 : decode cX11_tall 57 = .ok (.iconst 0, 1) := by decide +kernel
theorem dX11_tall_58 : decode cX11_tall 58 = .ok (.invokevirtual 285, 3) := by decide +kernel
theorem dX11_tall_61 : decode cX11_tall 61 = .ok (.lstore 14, 2) := by decide +kernel
theorem dX11_tall_63 : decode cX11_tall 63 = .ok (.lload 14, 2) := by decide +kernel
theorem dX11_tall_65 : decode cX11_tall 65 = .ok (.lstore 16, 2) := by decide +kernel
theorem dX11_tall_67 : decode cX11_tall 67 = .ok (.iconst 0, 1) := by decide +kernel
theorem dX11_tall_68 : decode cX11_tall 68 = .ok (.istore 18, 2) := by decide +kernel
theorem dX11_tall_70 : decode cX11_tall 70 = .ok (.iload 18, 2) := by decide +kernel
theorem dX11_tall_72 : decode cX11_tall 72 = .ok (.aload_n 0, 1) := by decide +kernel
theorem dX11_tall_73 : decode cX11_tall 73 = .ok (.getfield 35, 3) := by decide +kernel
theorem dX11_tall_76 : decode cX11_tall 76 = .ok (.iconst 5, 1) := by decide +kernel
theorem dX11_tall_77 : decode cX11_tall 77 = .ok (.iload 7, 2) := by decide +kernel
theorem dX11_tall_79 : decode cX11_tall 79 = .ok (.imul, 1) := by decide +kernel
theorem dX11_tall_80 : decode cX11_tall 80 = .ok (.iload 13, 2) := by decide +kernel
theorem dX11_tall_82 : decode cX11_tall 82 = .ok (.iadd, 1) := by decide +kernel
theorem dX11_tall_83 : decode cX11_tall 83 = .ok (.iaload, 1) := by decide +kernel
theorem dX11_tall_84 : decode cX11_tall 84 = .ok (.if_icmp .ge 72, 3) := by decide +kernel
theorem dX11_tall_87 : decode cX11_tall 87 = .ok (.aload_n 0, 1) := by decide +kernel
theorem dX11_tall_88 : decode cX11_tall 88 = .ok (.iload 7, 2) := by decide +kernel
theorem dX11_tall_90 : decode cX11_tall 90 = .ok (.iload 13, 2) := by decide +kernel
theorem dX11_tall_92 : decode cX11_tall 92 = .ok (.iload 18, 2) := by decide +kernel
theorem dX11_tall_94 : decode cX11_tall 94 = .ok (.invokevirtual 285, 3) := by decide +kernel
theorem dX11_tall_97 : decode cX11_tall 97 = .ok (.lstore 19, 2) := by decide +kernel
theorem dX11_tall_99 : decode cX11_tall 99 = .ok (.lload 19, 2) := by decide +kernel
theorem dX11_tall_101 : decode cX11_tall 101 = .ok (.lload 14, 2) := by decide +kernel
theorem dX11_tall_103 : decode cX11_tall 103 = .ok (.lcmp, 1) := by decide +kernel
theorem dX11_tall_104 : decode cX11_tall 104 = .ok (.ifCond .ge 8, 3) := by decide +kernel
theorem dX11_tall_107 : decode cX11_tall 107 = .ok (.lload 19, 2) := by decide +kernel
theorem dX11_tall_109 : decode cX11_tall 109 = .ok (.goto 5, 3) := by decide +kernel
theorem dX11_tall_112 : decode cX11_tall 112 = .ok (.lload 14, 2) := by decide +kernel
theorem dX11_tall_114 : decode cX11_tall 114 = .ok (.lstore 14, 2) := by decide +kernel
theorem dX11_tall_116 : decode cX11_tall 116 = .ok (.lload 19, 2) := by decide +kernel
theorem dX11_tall_118 : decode cX11_tall 118 = .ok (.lload 16, 2) := by decide +kernel
theorem dX11_tall_120 : decode cX11_tall 120 = .ok (.lcmp, 1) := by decide +kernel
theorem dX11_tall_121 : decode cX11_tall 121 = .ok (.ifCond .le 8, 3) := by decide +kernel
theorem dX11_tall_124 : decode cX11_tall 124 = .ok (.lload 19, 2) := by decide +kernel
theorem dX11_tall_126 : decode cX11_tall 126 = .ok (.goto 5, 3) := by decide +kernel
theorem dX11_tall_129 : decode cX11_tall 129 = .ok (.lload 16, 2) := by decide +kernel
theorem dX11_tall_131 : decode cX11_tall 131 = .ok (.lstore 16, 2) := by decide +kernel
theorem dX11_tall_133 : decode cX11_tall 133 = .ok (.iload 12, 2) := by decide +kernel
theorem dX11_tall_135 : decode cX11_tall 135 = .ok (.iload_n 2, 1) := by decide +kernel
theorem dX11_tall_136 : decode cX11_tall 136 = .ok (.iconst 1, 1) := by decide +kernel
theorem dX11_tall_137 : decode cX11_tall 137 = .ok (.iadd, 1) := by decide +kernel
theorem dX11_tall_138 : decode cX11_tall 138 = .ok (.if_icmp .ne 12, 3) := by decide +kernel
theorem dX11_tall_141 : decode cX11_tall 141 = .ok (.aload_n 0, 1) := by decide +kernel
theorem dX11_tall_142 : decode cX11_tall 142 = .ok (.lload 5, 2) := by decide +kernel
theorem dX11_tall_144 : decode cX11_tall 144 = .ok (.lload 19, 2) := by decide +kernel
theorem dX11_tall_146 : decode cX11_tall 146 = .ok (.lmul, 1) := by decide +kernel
theorem dX11_tall_147 : decode cX11_tall 147 = .ok (.invokevirtual 313, 3) := by decide +kernel
theorem dX11_tall_150 : decode cX11_tall 150 = .ok (.iinc 18 1, 3) := by decide +kernel
theorem dX11_tall_153 : decode cX11_tall 153 = .ok (.goto (-83), 3) := by decide +kernel
theorem dX11_tall_156 : decode cX11_tall 156 = .ok (.iload 12, 2) := by decide +kernel
theorem dX11_tall_158 : decode cX11_tall 158 = .ok (.iload_n 2, 1) := by decide +kernel
theorem dX11_tall_159 : decode cX11_tall 159 = .ok (.iconst 1, 1) := by decide +kernel
theorem dX11_tall_160 : decode cX11_tall 160 = .ok (.iadd, 1) := by decide +kernel
theorem dX11_tall_161 : decode cX11_tall 161 = .ok (.if_icmp .ne 19, 3) := by decide +kernel
theorem dX11_tall_164 : decode cX11_tall 164 = .ok (.aload_n 0, 1) := by decide +kernel
theorem dX11_tall_165 : decode cX11_tall 165 = .ok (.lload_n 3, 1) := by decide +kernel
theorem dX11_tall_166 : decode cX11_tall 166 = .ok (.lload 8, 2) := by decide +kernel
theorem dX11_tall_168 : decode cX11_tall 168 = .ok (.lmul, 1) := by decide +kernel
theorem dX11_tall_169 : decode cX11_tall 169 = .ok (.invokevirtual 313, 3) := by decide +kernel
theorem dX11_tall_172 : decode cX11_tall 172 = .ok (.aload_n 0, 1) := by decide +kernel
theorem dX11_tall_173 : decode cX11_tall 173 = .ok (.lload_n 3, 1) := by decide +kernel
theorem dX11_tall_174 : decode cX11_tall 174 = .ok (.lload 10, 2) := by decide +kernel
theorem dX11_tall_176 : decode cX11_tall 176 = .ok (.lmul, 1) := by decide +kernel
theorem dX11_tall_177 : decode cX11_tall 177 = .ok (.invokevirtual 313, 3) := by decide +kernel
theorem dX11_tall_180 : decode cX11_tall 180 = .ok (.lload 8, 2) := by decide +kernel
theorem dX11_tall_182 : decode cX11_tall 182 = .ok (.lload 14, 2) := by decide +kernel
theorem dX11_tall_184 : decode cX11_tall 184 = .ok (.ladd, 1) := by decide +kernel
theorem dX11_tall_185 : decode cX11_tall 185 = .ok (.lstore 8, 2) := by decide +kernel
theorem dX11_tall_187 : decode cX11_tall 187 = .ok (.lload 10, 2) := by decide +kernel
theorem dX11_tall_189 : decode cX11_tall 189 = .ok (.lload 16, 2) := by decide +kernel
theorem dX11_tall_191 : decode cX11_tall 191 = .ok (.ladd, 1) := by decide +kernel
theorem dX11_tall_192 : decode cX11_tall 192 = .ok (.lstore 10, 2) := by decide +kernel
theorem dX11_tall_194 : decode cX11_tall 194 = .ok (.iinc 12 1, 3) := by decide +kernel
theorem dX11_tall_197 : decode cX11_tall 197 = .ok (.goto (-166), 3) := by decide +kernel
theorem dX11_tall_200 : decode cX11_tall 200 = .ok (.aload_n 0, 1) := by decide +kernel
theorem dX11_tall_201 : decode cX11_tall 201 = .ok (.lload 8, 2) := by decide +kernel
theorem dX11_tall_203 : decode cX11_tall 203 = .ok (.lload_n 3, 1) := by decide +kernel
theorem dX11_tall_204 : decode cX11_tall 204 = .ok (.lmul, 1) := by decide +kernel
theorem dX11_tall_205 : decode cX11_tall 205 = .ok (.lload 5, 2) := by decide +kernel
theorem dX11_tall_207 : decode cX11_tall 207 = .ok (.lmul, 1) := by decide +kernel
theorem dX11_tall_208 : decode cX11_tall 208 = .ok (.lload_n 3, 1) := by decide +kernel
theorem dX11_tall_209 : decode cX11_tall 209 = .ok (.lload 5, 2) := by decide +kernel
theorem dX11_tall_211 : decode cX11_tall 211 = .ok (.ladd, 1) := by decide +kernel
theorem dX11_tall_212 : decode cX11_tall 212 = .ok (.invokestatic 204, 3) := by decide +kernel
theorem dX11_tall_215 : decode cX11_tall 215 = .ok (.invokevirtual 313, 3) := by decide +kernel
theorem dX11_tall_218 : decode cX11_tall 218 = .ok (.aload_n 0, 1) := by decide +kernel
theorem dX11_tall_219 : decode cX11_tall 219 = .ok (.lload 10, 2) := by decide +kernel
theorem dX11_tall_221 : decode cX11_tall 221 = .ok (.lload_n 3, 1) := by decide +kernel
theorem dX11_tall_222 : decode cX11_tall 222 = .ok (.lmul, 1) := by decide +kernel
theorem dX11_tall_223 : decode cX11_tall 223 = .ok (.lload 5, 2) := by decide +kernel
theorem dX11_tall_225 : decode cX11_tall 225 = .ok (.lmul, 1) := by decide +kernel
theorem dX11_tall_226 : decode cX11_tall 226 = .ok (.lload_n 3, 1) := by decide +kernel
theorem dX11_tall_227 : decode cX11_tall 227 = .ok (.lload 5, 2) := by decide +kernel
theorem dX11_tall_229 : decode cX11_tall 229 = .ok (.ladd, 1) := by decide +kernel
theorem dX11_tall_230 : decode cX11_tall 230 = .ok (.invokestatic 204, 3) := by decide +kernel
theorem dX11_tall_233 : decode cX11_tall 233 = .ok (.invokevirtual 313, 3) := by decide +kernel
theorem dX11_tall_236 : decode cX11_tall 236 = .ok (.aload_n 0, 1) := by decide +kernel
theorem dX11_tall_237 : decode cX11_tall 237 = .ok (.getfield 306, 3) := by decide +kernel
theorem dX11_tall_240 : decode cX11_tall 240 = .ok (.aload_n 0, 1) := by decide +kernel
theorem dX11_tall_241 : decode cX11_tall 241 = .ok (.getfield 303, 3) := by decide +kernel
theorem dX11_tall_244 : decode cX11_tall 244 = .ok (.lsub, 1) := by decide +kernel
theorem dX11_tall_245 : decode cX11_tall 245 = .ok (.lreturn, 1) := by decide +kernel
theorem dX11_page_0 : decode cX11_page 0 = .ok (.aload_n 0, 1) := by decide +kernel
theorem dX11_page_1 : decode cX11_page 1 = .ok (.iload_n 1, 1) := by decide +kernel
theorem dX11_page_2 : decode cX11_page 2 = .ok (.invokevirtual 221, 3) := by decide +kernel
theorem dX11_page_5 : decode cX11_page 5 = .ok (.ifCond .eq 30, 3) := by decide +kernel
theorem dX11_page_8 : decode cX11_page 8 = .ok (.iload_n 2, 1) := by decide +kernel
theorem dX11_page_9 : decode cX11_page 9 = .ok (.i2l, 1) := by decide +kernel
theorem dX11_page_10 : decode cX11_page 10 = .ok (.lconst 0, 1) := by decide +kernel
theorem dX11_page_11 : decode cX11_page 11 = .ok (.aload_n 0, 1) := by decide +kernel
theorem dX11_page_12 : decode cX11_page 12 = .ok (.iload_n 1, 1) := by decide +kernel
theorem dX11_page_13 : decode cX11_page 13 = .ok (.invokevirtual 256, 3) := by decide +kernel
theorem dX11_page_16 : decode cX11_page 16 = .ok (.iconst 1, 1) := by decide +kernel
theorem dX11_page_17 : decode cX11_page 17 = .ok (.isub, 1) := by decide +kernel
theorem dX11_page_18 : decode cX11_page 18 = .ok (.i2l, 1) := by decide +kernel
theorem dX11_page_19 : decode cX11_page 19 = .ok (.invokestatic 139, 3) := by decide +kernel
theorem dX11_page_22 : decode cX11_page 22 = .ok (.ifCond .eq 13, 3) := by decide +kernel
theorem dX11_page_25 : decode cX11_page 25 = .ok (.iload_n 3, 1) := by decide +kernel
theorem dX11_page_26 : decode cX11_page 26 = .ok (.i2l, 1) := by decide +kernel
theorem dX11_page_27 : decode cX11_page 27 = .ok (.lconst 0, 1) := by decide +kernel
theorem dX11_page_28 : decode cX11_page 28 = .ok (.lconst 1, 1) := by decide +kernel
theorem dX11_page_29 : decode cX11_page 29 = .ok (.invokestatic 139, 3) := by decide +kernel
theorem dX11_page_32 : decode cX11_page 32 = .ok (.ifCond .ne 5, 3) := by decide +kernel
theorem dX11_page_35 : decode cX11_page 35 = .ok (.iconst (-1), 1) := by decide +kernel
theorem dX11_page_36 : decode cX11_page 36 = .ok (.ireturn, 1) := by decide +kernel
theorem dX11_page_37 : decode cX11_page 37 = .ok (.iload_n 3, 1) := by decide +kernel
theorem dX11_page_38 : decode cX11_page 38 = .ok (.ifCond .ne 12, 3) := by decide +kernel
theorem dX11_page_41 : decode cX11_page 41 = .ok (.aload_n 0, 1) := by decide +kernel
theorem dX11_page_42 : decode cX11_page 42 = .ok (.iload_n 1, 1) := by decide +kernel
theorem dX11_page_43 : decode cX11_page 43 = .ok (.iload_n 2, 1) := by decide +kernel
theorem dX11_page_44 : decode cX11_page 44 = .ok (.invokevirtual 260, 3) := by decide +kernel
theorem dX11_page_47 : decode cX11_page 47 = .ok (.goto 32, 3) := by decide +kernel
theorem dX11_page_50 : decode cX11_page 50 = .ok (.aload_n 0, 1) := by decide +kernel
theorem dX11_page_51 : decode cX11_page 51 = .ok (.iload_n 1, 1) := by decide +kernel
theorem dX11_page_52 : decode cX11_page 52 = .ok (.iload_n 2, 1) := by decide +kernel
theorem dX11_page_53 : decode cX11_page 53 = .ok (.aload_n 0, 1) := by decide +kernel
theorem dX11_page_54 : decode cX11_page 54 = .ok (.getfield 50, 3) := by decide +kernel
theorem dX11_page_57 : decode cX11_page 57 = .ok (.iconst 3, 1) := by decide +kernel
theorem dX11_page_58 : decode cX11_page 58 = .ok (.iload_n 1, 1) := by decide +kernel
theorem dX11_page_59 : decode cX11_page 59 = .ok (.imul, 1) := by decide +kernel
theorem dX11_page_60 : decode cX11_page 60 = .ok (.iload_n 2, 1) := by decide +kernel
theorem dX11_page_61 : decode cX11_page 61 = .ok (.iadd, 1) := by decide +kernel
theorem dX11_page_62 : decode cX11_page 62 = .ok (.iaload, 1) := by decide +kernel
theorem dX11_page_63 : decode cX11_page 63 = .ok (.i2l, 1) := by decide +kernel
theorem dX11_page_64 : decode cX11_page 64 = .ok (.aload_n 0, 1) := by decide +kernel
theorem dX11_page_65 : decode cX11_page 65 = .ok (.getfield 53, 3) := by decide +kernel
theorem dX11_page_68 : decode cX11_page 68 = .ok (.iconst 3, 1) := by decide +kernel
theorem dX11_page_69 : decode cX11_page 69 = .ok (.iload_n 1, 1) := by decide +kernel
theorem dX11_page_70 : decode cX11_page 70 = .ok (.imul, 1) := by decide +kernel
theorem dX11_page_71 : decode cX11_page 71 = .ok (.iload_n 2, 1) := by decide +kernel
theorem dX11_page_72 : decode cX11_page 72 = .ok (.iadd, 1) := by decide +kernel
theorem dX11_page_73 : decode cX11_page 73 = .ok (.iaload, 1) := by decide +kernel
theorem dX11_page_74 : decode cX11_page 74 = .ok (.i2l, 1) := by decide +kernel
theorem dX11_page_75 : decode cX11_page 75 = .ok (.invokevirtual 317, 3) := by decide +kernel
theorem dX11_page_78 : decode cX11_page 78 = .ok (.l2i, 1) := by decide +kernel
theorem dX11_page_79 : decode cX11_page 79 = .ok (.ireturn, 1) := by decide +kernel
theorem dX11_list_0 : decode cX11_list 0 = .ok (.iload_n 1, 1) := by decide +kernel
theorem dX11_list_1 : decode cX11_list 1 = .ok (.i2l, 1) := by decide +kernel
theorem dX11_list_2 : decode cX11_list 2 = .ok (.lconst 1, 1) := by decide +kernel
theorem dX11_list_3 : decode cX11_list 3 = .ok (.ldc2_w 214, 3) := by decide +kernel
theorem dX11_list_6 : decode cX11_list 6 = .ok (.invokestatic 139, 3) := by decide +kernel
theorem dX11_list_9 : decode cX11_list 9 = .ok (.ifCond .eq 11, 3) := by decide +kernel
theorem dX11_list_12 : decode cX11_list 12 = .ok (.aload_n 0, 1) := by decide +kernel
theorem dX11_list_13 : decode cX11_list 13 = .ok (.getfield 321, 3) := by decide +kernel
theorem dX11_list_16 : decode cX11_list 16 = .ok (.iconst 4, 1) := by decide +kernel
theorem dX11_list_17 : decode cX11_list 17 = .ok (.if_icmp .ne 5, 3) := by decide +kernel
theorem dX11_list_20 : decode cX11_list 20 = .ok (.iconst (-1), 1) := by decide +kernel
theorem dX11_list_21 : decode cX11_list 21 = .ok (.ireturn, 1) := by decide +kernel
theorem dX11_list_22 : decode cX11_list 22 = .ok (.iconst 0, 1) := by decide +kernel
theorem dX11_list_23 : decode cX11_list 23 = .ok (.istore_n 2, 1) := by decide +kernel
theorem dX11_list_24 : decode cX11_list 24 = .ok (.iload_n 2, 1) := by decide +kernel
theorem dX11_list_25 : decode cX11_list 25 = .ok (.aload_n 0, 1) := by decide +kernel
theorem dX11_list_26 : decode cX11_list 26 = .ok (.getfield 321, 3) := by decide +kernel
theorem dX11_list_29 : decode cX11_list 29 = .ok (.if_icmp .ge 21, 3) := by decide +kernel
theorem dX11_list_32 : decode cX11_list 32 = .ok (.aload_n 0, 1) := by decide +kernel
theorem dX11_list_33 : decode cX11_list 33 = .ok (.getfield 102, 3) := by decide +kernel
theorem dX11_list_36 : decode cX11_list 36 = .ok (.iload_n 2, 1) := by decide +kernel
theorem dX11_list_37 : decode cX11_list 37 = .ok (.iaload, 1) := by decide +kernel
theorem dX11_list_38 : decode cX11_list 38 = .ok (.iload_n 1, 1) := by decide +kernel
theorem dX11_list_39 : decode cX11_list 39 = .ok (.if_icmp .ne 5, 3) := by decide +kernel
theorem dX11_list_42 : decode cX11_list 42 = .ok (.iconst (-1), 1) := by decide +kernel
theorem dX11_list_43 : decode cX11_list 43 = .ok (.ireturn, 1) := by decide +kernel
theorem dX11_list_44 : decode cX11_list 44 = .ok (.iinc 2 1, 3) := by decide +kernel
theorem dX11_list_47 : decode cX11_list 47 = .ok (.goto (-23), 3) := by decide +kernel
theorem dX11_list_50 : decode cX11_list 50 = .ok (.aload_n 0, 1) := by decide +kernel
theorem dX11_list_51 : decode cX11_list 51 = .ok (.getfield 102, 3) := by decide +kernel
theorem dX11_list_54 : decode cX11_list 54 = .ok (.aload_n 0, 1) := by decide +kernel
theorem dX11_list_55 : decode cX11_list 55 = .ok (.getfield 321, 3) := by decide +kernel
theorem dX11_list_58 : decode cX11_list 58 = .ok (.iload_n 1, 1) := by decide +kernel
theorem dX11_list_59 : decode cX11_list 59 = .ok (.iastore, 1) := by decide +kernel
theorem dX11_list_60 : decode cX11_list 60 = .ok (.aload_n 0, 1) := by decide +kernel
theorem dX11_list_61 : decode cX11_list 61 = .ok (.dup, 1) := by decide +kernel
theorem dX11_list_62 : decode cX11_list 62 = .ok (.getfield 321, 3) := by decide +kernel
theorem dX11_list_65 : decode cX11_list 65 = .ok (.iconst 1, 1) := by decide +kernel
theorem dX11_list_66 : decode cX11_list 66 = .ok (.iadd, 1) := by decide +kernel
theorem dX11_list_67 : decode cX11_list 67 = .ok (.putfield 321, 3) := by decide +kernel
theorem dX11_list_70 : decode cX11_list 70 = .ok (.aload_n 0, 1) := by decide +kernel
theorem dX11_list_71 : decode cX11_list 71 = .ok (.getfield 321, 3) := by decide +kernel
theorem dX11_list_74 : decode cX11_list 74 = .ok (.ireturn, 1) := by decide +kernel
theorem dX11_clear_0 : decode cX11_clear 0 = .ok (.aload_n 0, 1) := by decide +kernel
theorem dX11_clear_1 : decode cX11_clear 1 = .ok (.getfield 321, 3) := by decide +kernel
theorem dX11_clear_4 : decode cX11_clear 4 = .ok (.istore_n 1, 1) := by decide +kernel
theorem dX11_clear_5 : decode cX11_clear 5 = .ok (.aload_n 0, 1) := by decide +kernel
theorem dX11_clear_6 : decode cX11_clear 6 = .ok (.iconst 0, 1) := by decide +kernel
theorem dX11_clear_7 : decode cX11_clear 7 = .ok (.putfield 321, 3) := by decide +kernel
theorem dX11_clear_10 : decode cX11_clear 10 = .ok (.iload_n 1, 1) := by decide +kernel
theorem dX11_clear_11 : decode cX11_clear 11 = .ok (.ireturn, 1) := by decide +kernel
theorem dX11_finest_0 : decode cX11_finest 0 = .ok (.aload_n 0, 1) := by decide +kernel
theorem dX11_finest_1 : decode cX11_finest 1 = .ok (.iload_n 1, 1) := by decide +kernel
theorem dX11_finest_2 : decode cX11_finest 2 = .ok (.invokevirtual 221, 3) := by decide +kernel
theorem dX11_finest_5 : decode cX11_finest 5 = .ok (.ifCond .eq 41, 3) := by decide +kernel
theorem dX11_finest_8 : decode cX11_finest 8 = .ok (.iload_n 2, 1) := by decide +kernel
theorem dX11_finest_9 : decode cX11_finest 9 = .ok (.i2l, 1) := by decide +kernel
theorem dX11_finest_10 : decode cX11_finest 10 = .ok (.ldc2_w 190, 3) := by decide +kernel
theorem dX11_finest_13 : decode cX11_finest 13 = .ok (.ldc2_w 238, 3) := by decide +kernel
theorem dX11_finest_16 : decode cX11_finest 16 = .ok (.invokestatic 139, 3) := by decide +kernel
theorem dX11_finest_19 : decode cX11_finest 19 = .ok (.ifCond .eq 27, 3) := by decide +kernel
theorem dX11_finest_22 : decode cX11_finest 22 = .ok (.iload_n 3, 1) := by decide +kernel
theorem dX11_finest_23 : decode cX11_finest 23 = .ok (.i2l, 1) := by decide +kernel
theorem dX11_finest_24 : decode cX11_finest 24 = .ok (.lconst 0, 1) := by decide +kernel
theorem dX11_finest_25 : decode cX11_finest 25 = .ok (.aload_n 0, 1) := by decide +kernel
theorem dX11_finest_26 : decode cX11_finest 26 = .ok (.iload_n 1, 1) := by decide +kernel
theorem dX11_finest_27 : decode cX11_finest 27 = .ok (.invokevirtual 256, 3) := by decide +kernel
theorem dX11_finest_30 : decode cX11_finest 30 = .ok (.iconst 1, 1) := by decide +kernel
theorem dX11_finest_31 : decode cX11_finest 31 = .ok (.isub, 1) := by decide +kernel
theorem dX11_finest_32 : decode cX11_finest 32 = .ok (.i2l, 1) := by decide +kernel
theorem dX11_finest_33 : decode cX11_finest 33 = .ok (.invokestatic 139, 3) := by decide +kernel
theorem dX11_finest_36 : decode cX11_finest 36 = .ok (.ifCond .eq 10, 3) := by decide +kernel
theorem dX11_finest_39 : decode cX11_finest 39 = .ok (.aload_n 0, 1) := by decide +kernel
theorem dX11_finest_40 : decode cX11_finest 40 = .ok (.getfield 321, 3) := by decide +kernel
theorem dX11_finest_43 : decode cX11_finest 43 = .ok (.ifCond .ne 5, 3) := by decide +kernel
theorem dX11_finest_46 : decode cX11_finest 46 = .ok (.iconst (-1), 1) := by decide +kernel
theorem dX11_finest_47 : decode cX11_finest 47 = .ok (.ireturn, 1) := by decide +kernel
theorem dX11_finest_48 : decode cX11_finest 48 = .ok (.iconst (-1), 1) := by decide +kernel
theorem dX11_finest_49 : decode cX11_finest 49 = .ok (.istore 4, 2) := by decide +kernel
theorem dX11_finest_51 : decode cX11_finest 51 = .ok (.iconst (-1), 1) := by decide +kernel
theorem dX11_finest_52 : decode cX11_finest 52 = .ok (.istore 5, 2) := by decide +kernel
theorem dX11_finest_54 : decode cX11_finest 54 = .ok (.iconst 0, 1) := by decide +kernel
theorem dX11_finest_55 : decode cX11_finest 55 = .ok (.istore 6, 2) := by decide +kernel
theorem dX11_finest_57 : decode cX11_finest 57 = .ok (.iload 6, 2) := by decide +kernel
theorem dX11_finest_59 : decode cX11_finest 59 = .ok (.aload_n 0, 1) := by decide +kernel
theorem dX11_finest_60 : decode cX11_finest 60 = .ok (.iload_n 1, 1) := by decide +kernel
theorem dX11_finest_61 : decode cX11_finest 61 = .ok (.invokevirtual 256, 3) := by decide +kernel
theorem dX11_finest_64 : decode cX11_finest 64 = .ok (.if_icmp .ge 191, 3) := by decide +kernel
theorem dX11_finest_67 : decode cX11_finest 67 = .ok (.iconst (-1), 1) := by decide +kernel
theorem dX11_finest_68 : decode cX11_finest 68 = .ok (.istore 4, 2) := by decide +kernel
theorem dX11_finest_70 : decode cX11_finest 70 = .ok (.lconst 0, 1) := by decide +kernel
theorem dX11_finest_71 : decode cX11_finest 71 = .ok (.lstore 7, 2) := by decide +kernel
theorem dX11_finest_73 : decode cX11_finest 73 = .ok (.lconst 1, 1) := by decide +kernel
theorem dX11_finest_74 : decode cX11_finest 74 = .ok (.lstore 9, 2) := by decide +kernel
theorem dX11_finest_76 : decode cX11_finest 76 = .ok (.iconst 0, 1) := by decide +kernel
theorem dX11_finest_77 : decode cX11_finest 77 = .ok (.istore 11, 2) := by decide +kernel
theorem dX11_finest_79 : decode cX11_finest 79 = .ok (.iload 11, 2) := by decide +kernel
theorem dX11_finest_81 : decode cX11_finest 81 = .ok (.aload_n 0, 1) := by decide +kernel
theorem dX11_finest_82 : decode cX11_finest 82 = .ok (.getfield 321, 3) := by decide +kernel
theorem dX11_finest_85 : decode cX11_finest 85 = .ok (.if_icmp .ge 146, 3) := by decide +kernel
theorem dX11_finest_88 : decode cX11_finest 88 = .ok (.iconst 0, 1) := by decide +kernel
theorem dX11_finest_89 : decode cX11_finest 89 = .ok (.istore 12, 2) := by decide +kernel
theorem dX11_finest_91 : decode cX11_finest 91 = .ok (.iload 12, 2) := by decide +kernel
theorem dX11_finest_93 : decode cX11_finest 93 = .ok (.aload_n 0, 1) := by decide +kernel
theorem dX11_finest_94 : decode cX11_finest 94 = .ok (.getfield 321, 3) := by decide +kernel
theorem dX11_finest_97 : decode cX11_finest 97 = .ok (.if_icmp .ge 128, 3) := by decide +kernel
theorem dX11_finest_100 : decode cX11_finest 100 = .ok (.aload_n 0, 1) := by decide +kernel
theorem dX11_finest_101 : decode cX11_finest 101 = .ok (.getfield 102, 3) := by decide +kernel
theorem dX11_finest_104 : decode cX11_finest 104 = .ok (.iload 11, 2) := by decide +kernel
theorem dX11_finest_106 : decode cX11_finest 106 = .ok (.iaload, 1) := by decide +kernel
theorem dX11_finest_107 : decode cX11_finest 107 = .ok (.i2l, 1) := by decide +kernel
theorem dX11_finest_108 : decode cX11_finest 108 = .ok (.lstore 13, 2) := by decide +kernel
theorem dX11_finest_110 : decode cX11_finest 110 = .ok (.aload_n 0, 1) := by decide +kernel
theorem dX11_finest_111 : decode cX11_finest 111 = .ok (.getfield 102, 3) := by decide +kernel
theorem dX11_finest_114 : decode cX11_finest 114 = .ok (.iload 12, 2) := by decide +kernel
theorem dX11_finest_116 : decode cX11_finest 116 = .ok (.iaload, 1) := by decide +kernel
theorem dX11_finest_117 : decode cX11_finest 117 = .ok (.i2l, 1) := by decide +kernel
theorem dX11_finest_118 : decode cX11_finest 118 = .ok (.lstore 15, 2) := by decide +kernel
theorem dX11_finest_120 : decode cX11_finest 120 = .ok (.aload_n 0, 1) := by decide +kernel
theorem dX11_finest_121 : decode cX11_finest 121 = .ok (.iload_n 1, 1) := by decide +kernel
theorem dX11_finest_122 : decode cX11_finest 122 = .ok (.iload 6, 2) := by decide +kernel
theorem dX11_finest_124 : decode cX11_finest 124 = .ok (.lload 13, 2) := by decide +kernel
theorem dX11_finest_126 : decode cX11_finest 126 = .ok (.lload 15, 2) := by decide +kernel
theorem dX11_finest_128 : decode cX11_finest 128 = .ok (.invokevirtual 317, 3) := by decide +kernel
theorem dX11_finest_131 : decode cX11_finest 131 = .ok (.iload_n 2, 1) := by decide +kernel
theorem dX11_finest_132 : decode cX11_finest 132 = .ok (.i2l, 1) := by decide +kernel
theorem dX11_finest_133 : decode cX11_finest 133 = .ok (.lcmp, 1) := by decide +kernel
theorem dX11_finest_134 : decode cX11_finest 134 = .ok (.ifCond .le 6, 3) := by decide +kernel
theorem dX11_finest_137 : decode cX11_finest 137 = .ok (.goto 82, 3) := by decide +kernel
theorem dX11_finest_140 : decode cX11_finest 140 = .ok (.iload 4, 2) := by decide +kernel
theorem dX11_finest_142 : decode cX11_finest 142 = .ok (.iconst (-1), 1) := by decide +kernel
theorem dX11_finest_143 : decode cX11_finest 143 = .ok (.if_icmp .eq 35, 3) := by decide +kernel
theorem dX11_finest_146 : decode cX11_finest 146 = .ok (.iload 6, 2) := by decide +kernel
theorem dX11_finest_148 : decode cX11_finest 148 = .ok (.aload_n 0, 1) := by decide +kernel
theorem dX11_finest_149 : decode cX11_finest 149 = .ok (.iload_n 1, 1) := by decide +kernel
theorem dX11_finest_150 : decode cX11_finest 150 = .ok (.invokevirtual 256, 3) := by decide +kernel
theorem dX11_finest_153 : decode cX11_finest 153 = .ok (.iconst 1, 1) := by decide +kernel
theorem dX11_finest_154 : decode cX11_finest 154 = .ok (.isub, 1) := by decide +kernel
theorem dX11_finest_155 : decode cX11_finest 155 = .ok (.if_icmp .ne 27, 3) := by decide +kernel
theorem dX11_finest_158 : decode cX11_finest 158 = .ok (.lload 13, 2) := by decide +kernel
theorem dX11_finest_160 : decode cX11_finest 160 = .ok (.lload 15, 2) := by decide +kernel
theorem dX11_finest_162 : decode cX11_finest 162 = .ok (.lmul, 1) := by decide +kernel
theorem dX11_finest_163 : decode cX11_finest 163 = .ok (.lload 9, 2) := by decide +kernel
theorem dX11_finest_165 : decode cX11_finest 165 = .ok (.lmul, 1) := by decide +kernel
theorem dX11_finest_166 : decode cX11_finest 166 = .ok (.lload 7, 2) := by decide +kernel
theorem dX11_finest_168 : decode cX11_finest 168 = .ok (.lload 13, 2) := by decide +kernel
theorem dX11_finest_170 : decode cX11_finest 170 = .ok (.lload 15, 2) := by decide +kernel
theorem dX11_finest_172 : decode cX11_finest 172 = .ok (.ladd, 1) := by decide +kernel
theorem dX11_finest_173 : decode cX11_finest 173 = .ok (.lmul, 1) := by decide +kernel
theorem dX11_finest_174 : decode cX11_finest 174 = .ok (.lcmp, 1) := by decide +kernel
theorem dX11_finest_175 : decode cX11_finest 175 = .ok (.ifCond .le 7, 3) := by decide +kernel
theorem dX11_finest_178 : decode cX11_finest 178 = .ok (.iconst 1, 1) := by decide +kernel
theorem dX11_finest_179 : decode cX11_finest 179 = .ok (.goto 4, 3) := by decide +kernel
theorem dX11_finest_182 : decode cX11_finest 182 = .ok (.iconst 0, 1) := by decide +kernel
theorem dX11_finest_183 : decode cX11_finest 183 = .ok (.istore 17, 2) := by decide +kernel
theorem dX11_finest_185 : decode cX11_finest 185 = .ok (.iload 17, 2) := by decide +kernel
theorem dX11_finest_187 : decode cX11_finest 187 = .ok (.ifCond .ne 6, 3) := by decide +kernel
theorem dX11_finest_190 : decode cX11_finest 190 = .ok (.goto 29, 3) := by decide +kernel
theorem dX11_finest_193 : decode cX11_finest 193 = .ok (.ldc2_w 324, 3) := by decide +kernel
theorem dX11_finest_196 : decode cX11_finest 196 = .ok (.lload 13, 2) := by decide +kernel
theorem dX11_finest_198 : decode cX11_finest 198 = .ok (.lmul, 1) := by decide +kernel
theorem dX11_finest_199 : decode cX11_finest 199 = .ok (.lload 15, 2) := by decide +kernel
theorem dX11_finest_201 : decode cX11_finest 201 = .ok (.ladd, 1) := by decide +kernel
theorem dX11_finest_202 : decode cX11_finest 202 = .ok (.l2i, 1) := by decide +kernel
theorem dX11_finest_203 : decode cX11_finest 203 = .ok (.istore 4, 2) := by decide +kernel
theorem dX11_finest_205 : decode cX11_finest 205 = .ok (.lload 13, 2) := by decide +kernel
theorem dX11_finest_207 : decode cX11_finest 207 = .ok (.lload 15, 2) := by decide +kernel
theorem dX11_finest_209 : decode cX11_finest 209 = .ok (.lmul, 1) := by decide +kernel
theorem dX11_finest_210 : decode cX11_finest 210 = .ok (.lstore 7, 2) := by decide +kernel
theorem dX11_finest_212 : decode cX11_finest 212 = .ok (.lload 13, 2) := by decide +kernel
theorem dX11_finest_214 : decode cX11_finest 214 = .ok (.lload 15, 2) := by decide +kernel
theorem dX11_finest_216 : decode cX11_finest 216 = .ok (.ladd, 1) := by decide +kernel
theorem dX11_finest_217 : decode cX11_finest 217 = .ok (.lstore 9, 2) := by decide +kernel
theorem dX11_finest_219 : decode cX11_finest 219 = .ok (.iinc 12 1, 3) := by decide +kernel
theorem dX11_finest_222 : decode cX11_finest 222 = .ok (.goto (-131), 3) := by decide +kernel
theorem dX11_finest_225 : decode cX11_finest 225 = .ok (.iinc 11 1, 3) := by decide +kernel
theorem dX11_finest_228 : decode cX11_finest 228 = .ok (.goto (-149), 3) := by decide +kernel
theorem dX11_finest_231 : decode cX11_finest 231 = .ok (.iload 4, 2) := by decide +kernel
theorem dX11_finest_233 : decode cX11_finest 233 = .ok (.iconst (-1), 1) := by decide +kernel
theorem dX11_finest_234 : decode cX11_finest 234 = .ok (.if_icmp .ne 5, 3) := by decide +kernel
theorem dX11_finest_237 : decode cX11_finest 237 = .ok (.iconst (-1), 1) := by decide +kernel
theorem dX11_finest_238 : decode cX11_finest 238 = .ok (.ireturn, 1) := by decide +kernel
theorem dX11_finest_239 : decode cX11_finest 239 = .ok (.iload 6, 2) := by decide +kernel
theorem dX11_finest_241 : decode cX11_finest 241 = .ok (.iload_n 3, 1) := by decide +kernel
theorem dX11_finest_242 : decode cX11_finest 242 = .ok (.if_icmp .ne 7, 3) := by decide +kernel
theorem dX11_finest_245 : decode cX11_finest 245 = .ok (.iload 4, 2) := by decide +kernel
theorem dX11_finest_247 : decode cX11_finest 247 = .ok (.istore 5, 2) := by decide +kernel
theorem dX11_finest_249 : decode cX11_finest 249 = .ok (.iinc 6 1, 3) := by decide +kernel
theorem dX11_finest_252 : decode cX11_finest 252 = .ok (.goto (-195), 3) := by decide +kernel
theorem dX11_finest_255 : decode cX11_finest 255 = .ok (.iload 5, 2) := by decide +kernel
theorem dX11_finest_257 : decode cX11_finest 257 = .ok (.ireturn, 1) := by decide +kernel
theorem dX11_go_0 : decode cX11_go 0 = .ok (.iload_n 1, 1) := by decide +kernel
theorem dX11_go_1 : decode cX11_go 1 = .ok (.i2l, 1) := by decide +kernel
theorem dX11_go_2 : decode cX11_go 2 = .ok (.lconst 0, 1) := by decide +kernel
theorem dX11_go_3 : decode cX11_go 3 = .ok (.ldc2_w 214, 3) := by decide +kernel
theorem dX11_go_6 : decode cX11_go 6 = .ok (.invokestatic 139, 3) := by decide +kernel
theorem dX11_go_9 : decode cX11_go 9 = .ok (.ifCond .ne 5, 3) := by decide +kernel
theorem dX11_go_12 : decode cX11_go 12 = .ok (.iconst (-1), 1) := by decide +kernel
theorem dX11_go_13 : decode cX11_go 13 = .ok (.ireturn, 1) := by decide +kernel
theorem dX11_go_14 : decode cX11_go 14 = .ok (.aload_n 0, 1) := by decide +kernel
theorem dX11_go_15 : decode cX11_go 15 = .ok (.aload_n 0, 1) := by decide +kernel
theorem dX11_go_16 : decode cX11_go 16 = .ok (.getfield 268, 3) := by decide +kernel
theorem dX11_go_19 : decode cX11_go 19 = .ok (.iload_n 1, 1) := by decide +kernel
theorem dX11_go_20 : decode cX11_go 20 = .ok (.iadd, 1) := by decide +kernel
theorem dX11_go_21 : decode cX11_go 21 = .ok (.sipush 300, 3) := by decide +kernel
theorem dX11_go_24 : decode cX11_go 24 = .ok (.if_icmp .le 9, 3) := by decide +kernel
theorem dX11_go_27 : decode cX11_go 27 = .ok (.sipush 300, 3) := by decide +kernel
theorem dX11_go_30 : decode cX11_go 30 = .ok (.goto 9, 3) := by decide +kernel
theorem dX11_go_33 : decode cX11_go 33 = .ok (.aload_n 0, 1) := by decide +kernel
theorem dX11_go_34 : decode cX11_go 34 = .ok (.getfield 268, 3) := by decide +kernel
theorem dX11_go_37 : decode cX11_go 37 = .ok (.iload_n 1, 1) := by decide +kernel
theorem dX11_go_38 : decode cX11_go 38 = .ok (.iadd, 1) := by decide +kernel
theorem dX11_go_39 : decode cX11_go 39 = .ok (.putfield 268, 3) := by decide +kernel
theorem dX11_go_42 : decode cX11_go 42 = .ok (.aload_n 0, 1) := by decide +kernel
theorem dX11_go_43 : decode cX11_go 43 = .ok (.getfield 268, 3) := by decide +kernel
theorem dX11_go_46 : decode cX11_go 46 = .ok (.ireturn, 1) := by decide +kernel
theorem dX11_move_0 : decode cX11_move 0 = .ok (.aload_n 0, 1) := by decide +kernel
theorem dX11_move_1 : decode cX11_move 1 = .ok (.iload_n 1, 1) := by decide +kernel
theorem dX11_move_2 : decode cX11_move 2 = .ok (.invokevirtual 221, 3) := by decide +kernel
theorem dX11_move_5 : decode cX11_move 5 = .ok (.ifCond .eq 77, 3) := by decide +kernel
theorem dX11_move_8 : decode cX11_move 8 = .ok (.iload_n 2, 1) := by decide +kernel
theorem dX11_move_9 : decode cX11_move 9 = .ok (.i2l, 1) := by decide +kernel
theorem dX11_move_10 : decode cX11_move 10 = .ok (.lconst 1, 1) := by decide +kernel
theorem dX11_move_11 : decode cX11_move 11 = .ok (.aload_n 0, 1) := by decide +kernel
theorem dX11_move_12 : decode cX11_move 12 = .ok (.getfield 23, 3) := by decide +kernel
theorem dX11_move_15 : decode cX11_move 15 = .ok (.aload_n 0, 1) := by decide +kernel
theorem dX11_move_16 : decode cX11_move 16 = .ok (.getfield 41, 3) := by decide +kernel
theorem dX11_move_19 : decode cX11_move 19 = .ok (.iload_n 1, 1) := by decide +kernel
theorem dX11_move_20 : decode cX11_move 20 = .ok (.iaload, 1) := by decide +kernel
theorem dX11_move_21 : decode cX11_move 21 = .ok (.iaload, 1) := by decide +kernel
theorem dX11_move_22 : decode cX11_move 22 = .ok (.iconst 1, 1) := by decide +kernel
theorem dX11_move_23 : decode cX11_move 23 = .ok (.isub, 1) := by decide +kernel
theorem dX11_move_24 : decode cX11_move 24 = .ok (.i2l, 1) := by decide +kernel
theorem dX11_move_25 : decode cX11_move 25 = .ok (.invokestatic 139, 3) := by decide +kernel
theorem dX11_move_28 : decode cX11_move 28 = .ok (.ifCond .eq 54, 3) := by decide +kernel
theorem dX11_move_31 : decode cX11_move 31 = .ok (.iload_n 3, 1) := by decide +kernel
theorem dX11_move_32 : decode cX11_move 32 = .ok (.i2l, 1) := by decide +kernel
theorem dX11_move_33 : decode cX11_move 33 = .ok (.lconst 0, 1) := by decide +kernel
theorem dX11_move_34 : decode cX11_move 34 = .ok (.aload_n 0, 1) := by decide +kernel
theorem dX11_move_35 : decode cX11_move 35 = .ok (.getfield 35, 3) := by decide +kernel
theorem dX11_move_38 : decode cX11_move 38 = .ok (.iconst 5, 1) := by decide +kernel
theorem dX11_move_39 : decode cX11_move 39 = .ok (.aload_n 0, 1) := by decide +kernel
theorem dX11_move_40 : decode cX11_move 40 = .ok (.getfield 41, 3) := by decide +kernel
theorem dX11_move_43 : decode cX11_move 43 = .ok (.iload_n 1, 1) := by decide +kernel
theorem dX11_move_44 : decode cX11_move 44 = .ok (.iaload, 1) := by decide +kernel
theorem dX11_move_45 : decode cX11_move 45 = .ok (.imul, 1) := by decide +kernel
theorem dX11_move_46 : decode cX11_move 46 = .ok (.iload_n 2, 1) := by decide +kernel
theorem dX11_move_47 : decode cX11_move 47 = .ok (.iadd, 1) := by decide +kernel
theorem dX11_move_48 : decode cX11_move 48 = .ok (.iaload, 1) := by decide +kernel
theorem dX11_move_49 : decode cX11_move 49 = .ok (.iconst 1, 1) := by decide +kernel
theorem dX11_move_50 : decode cX11_move 50 = .ok (.isub, 1) := by decide +kernel
theorem dX11_move_51 : decode cX11_move 51 = .ok (.i2l, 1) := by decide +kernel
theorem dX11_move_52 : decode cX11_move 52 = .ok (.invokestatic 139, 3) := by decide +kernel
theorem dX11_move_55 : decode cX11_move 55 = .ok (.ifCond .eq 27, 3) := by decide +kernel
theorem dX11_move_58 : decode cX11_move 58 = .ok (.iload 4, 2) := by decide +kernel
theorem dX11_move_60 : decode cX11_move 60 = .ok (.i2l, 1) := by decide +kernel
theorem dX11_move_61 : decode cX11_move 61 = .ok (.ldc2_w 326, 3) := by decide +kernel
theorem dX11_move_64 : decode cX11_move 64 = .ok (.ldc2_w 328, 3) := by decide +kernel
theorem dX11_move_67 : decode cX11_move 67 = .ok (.invokestatic 139, 3) := by decide +kernel
theorem dX11_move_70 : decode cX11_move 70 = .ok (.ifCond .eq 12, 3) := by decide +kernel
theorem dX11_move_73 : decode cX11_move 73 = .ok (.aload_n 0, 1) := by decide +kernel
theorem dX11_move_74 : decode cX11_move 74 = .ok (.getfield 249, 3) := by decide +kernel
theorem dX11_move_77 : decode cX11_move 77 = .ok (.bipush 40, 2) := by decide +kernel
theorem dX11_move_79 : decode cX11_move 79 = .ok (.if_icmp .ne 5, 3) := by decide +kernel
theorem dX11_move_82 : decode cX11_move 82 = .ok (.iconst (-1), 1) := by decide +kernel
theorem dX11_move_83 : decode cX11_move 83 = .ok (.ireturn, 1) := by decide +kernel
theorem dX11_move_84 : decode cX11_move 84 = .ok (.aload_n 0, 1) := by decide +kernel
theorem dX11_move_85 : decode cX11_move 85 = .ok (.getfield 72, 3) := by decide +kernel
theorem dX11_move_88 : decode cX11_move 88 = .ok (.aload_n 0, 1) := by decide +kernel
theorem dX11_move_89 : decode cX11_move 89 = .ok (.getfield 249, 3) := by decide +kernel
theorem dX11_move_92 : decode cX11_move 92 = .ok (.iload_n 1, 1) := by decide +kernel
theorem dX11_move_93 : decode cX11_move 93 = .ok (.iastore, 1) := by decide +kernel
theorem dX11_move_94 : decode cX11_move 94 = .ok (.aload_n 0, 1) := by decide +kernel
theorem dX11_move_95 : decode cX11_move 95 = .ok (.getfield 75, 3) := by decide +kernel
theorem dX11_move_98 : decode cX11_move 98 = .ok (.aload_n 0, 1) := by decide +kernel
theorem dX11_move_99 : decode cX11_move 99 = .ok (.getfield 249, 3) := by decide +kernel
theorem dX11_move_102 : decode cX11_move 102 = .ok (.iload_n 2, 1) := by decide +kernel
theorem dX11_move_103 : decode cX11_move 103 = .ok (.iastore, 1) := by decide +kernel
theorem dX11_move_104 : decode cX11_move 104 = .ok (.aload_n 0, 1) := by decide +kernel
theorem dX11_move_105 : decode cX11_move 105 = .ok (.getfield 78, 3) := by decide +kernel
theorem dX11_move_108 : decode cX11_move 108 = .ok (.aload_n 0, 1) := by decide +kernel
theorem dX11_move_109 : decode cX11_move 109 = .ok (.getfield 249, 3) := by decide +kernel
theorem dX11_move_112 : decode cX11_move 112 = .ok (.iload_n 3, 1) := by decide +kernel
theorem dX11_move_113 : decode cX11_move 113 = .ok (.iastore, 1) := by decide +kernel
theorem dX11_move_114 : decode cX11_move 114 = .ok (.aload_n 0, 1) := by decide +kernel
theorem dX11_move_115 : decode cX11_move 115 = .ok (.getfield 81, 3) := by decide +kernel
theorem dX11_move_118 : decode cX11_move 118 = .ok (.aload_n 0, 1) := by decide +kernel
theorem dX11_move_119 : decode cX11_move 119 = .ok (.getfield 249, 3) := by decide +kernel
theorem dX11_move_122 : decode cX11_move 122 = .ok (.iload 4, 2) := by decide +kernel
theorem dX11_move_124 : decode cX11_move 124 = .ok (.iastore, 1) := by decide +kernel
theorem dX11_move_125 : decode cX11_move 125 = .ok (.aload_n 0, 1) := by decide +kernel
theorem dX11_move_126 : decode cX11_move 126 = .ok (.getfield 84, 3) := by decide +kernel
theorem dX11_move_129 : decode cX11_move 129 = .ok (.aload_n 0, 1) := by decide +kernel
theorem dX11_move_130 : decode cX11_move 130 = .ok (.getfield 249, 3) := by decide +kernel
theorem dX11_move_133 : decode cX11_move 133 = .ok (.aload_n 0, 1) := by decide +kernel
theorem dX11_move_134 : decode cX11_move 134 = .ok (.getfield 268, 3) := by decide +kernel
theorem dX11_move_137 : decode cX11_move 137 = .ok (.iastore, 1) := by decide +kernel
theorem dX11_move_138 : decode cX11_move 138 = .ok (.aload_n 0, 1) := by decide +kernel
theorem dX11_move_139 : decode cX11_move 139 = .ok (.dup, 1) := by decide +kernel
theorem dX11_move_140 : decode cX11_move 140 = .ok (.getfield 249, 3) := by decide +kernel
theorem dX11_move_143 : decode cX11_move 143 = .ok (.iconst 1, 1) := by decide +kernel
theorem dX11_move_144 : decode cX11_move 144 = .ok (.iadd, 1) := by decide +kernel
theorem dX11_move_145 : decode cX11_move 145 = .ok (.putfield 249, 3) := by decide +kernel
theorem dX11_move_148 : decode cX11_move 148 = .ok (.aload_n 0, 1) := by decide +kernel
theorem dX11_move_149 : decode cX11_move 149 = .ok (.getfield 249, 3) := by decide +kernel
theorem dX11_move_152 : decode cX11_move 152 = .ok (.ireturn, 1) := by decide +kernel
theorem dX11_report_0 : decode cX11_report 0 = .ok (.aload_n 0, 1) := by decide +kernel
theorem dX11_report_1 : decode cX11_report 1 = .ok (.getfield 65, 3) := by decide +kernel
theorem dX11_report_4 : decode cX11_report 4 = .ok (.iconst (-1), 1) := by decide +kernel
theorem dX11_report_5 : decode cX11_report 5 = .ok (.if_icmp .eq 36, 3) := by decide +kernel
theorem dX11_report_8 : decode cX11_report 8 = .ok (.iload_n 1, 1) := by decide +kernel
theorem dX11_report_9 : decode cX11_report 9 = .ok (.i2l, 1) := by decide +kernel
theorem dX11_report_10 : decode cX11_report 10 = .ok (.lconst 0, 1) := by decide +kernel
theorem dX11_report_11 : decode cX11_report 11 = .ok (.ldc2_w 330, 3) := by decide +kernel
theorem dX11_report_14 : decode cX11_report 14 = .ok (.invokestatic 139, 3) := by decide +kernel
theorem dX11_report_17 : decode cX11_report 17 = .ok (.ifCond .eq 24, 3) := by decide +kernel
theorem dX11_report_20 : decode cX11_report 20 = .ok (.iload_n 2, 1) := by decide +kernel
theorem dX11_report_21 : decode cX11_report 21 = .ok (.i2l, 1) := by decide +kernel
theorem dX11_report_22 : decode cX11_report 22 = .ok (.lconst 0, 1) := by decide +kernel
theorem dX11_report_23 : decode cX11_report 23 = .ok (.ldc2_w 332, 3) := by decide +kernel
theorem dX11_report_26 : decode cX11_report 26 = .ok (.invokestatic 139, 3) := by decide +kernel
theorem dX11_report_29 : decode cX11_report 29 = .ok (.ifCond .eq 12, 3) := by decide +kernel
theorem dX11_report_32 : decode cX11_report 32 = .ok (.aload_n 0, 1) := by decide +kernel
theorem dX11_report_33 : decode cX11_report 33 = .ok (.getfield 334, 3) := by decide +kernel
theorem dX11_report_36 : decode cX11_report 36 = .ok (.bipush 60, 2) := by decide +kernel
theorem dX11_report_38 : decode cX11_report 38 = .ok (.if_icmp .ne 5, 3) := by decide +kernel
theorem dX11_report_41 : decode cX11_report 41 = .ok (.iconst (-1), 1) := by decide +kernel
theorem dX11_report_42 : decode cX11_report 42 = .ok (.ireturn, 1) := by decide +kernel
theorem dX11_report_43 : decode cX11_report 43 = .ok (.aload_n 0, 1) := by decide +kernel
theorem dX11_report_44 : decode cX11_report 44 = .ok (.getfield 87, 3) := by decide +kernel
theorem dX11_report_47 : decode cX11_report 47 = .ok (.aload_n 0, 1) := by decide +kernel
theorem dX11_report_48 : decode cX11_report 48 = .ok (.getfield 334, 3) := by decide +kernel
theorem dX11_report_51 : decode cX11_report 51 = .ok (.iload_n 1, 1) := by decide +kernel
theorem dX11_report_52 : decode cX11_report 52 = .ok (.iastore, 1) := by decide +kernel
theorem dX11_report_53 : decode cX11_report 53 = .ok (.aload_n 0, 1) := by decide +kernel
theorem dX11_report_54 : decode cX11_report 54 = .ok (.getfield 90, 3) := by decide +kernel
theorem dX11_report_57 : decode cX11_report 57 = .ok (.aload_n 0, 1) := by decide +kernel
theorem dX11_report_58 : decode cX11_report 58 = .ok (.getfield 334, 3) := by decide +kernel
theorem dX11_report_61 : decode cX11_report 61 = .ok (.aload_n 0, 1) := by decide +kernel
theorem dX11_report_62 : decode cX11_report 62 = .ok (.getfield 65, 3) := by decide +kernel
theorem dX11_report_65 : decode cX11_report 65 = .ok (.iastore, 1) := by decide +kernel
theorem dX11_report_66 : decode cX11_report 66 = .ok (.iconst 0, 1) := by decide +kernel
theorem dX11_report_67 : decode cX11_report 67 = .ok (.istore_n 3, 1) := by decide +kernel
theorem dX11_report_68 : decode cX11_report 68 = .ok (.iload_n 3, 1) := by decide +kernel
theorem dX11_report_69 : decode cX11_report 69 = .ok (.iconst 4, 1) := by decide +kernel
theorem dX11_report_70 : decode cX11_report 70 = .ok (.if_icmp .ge 28, 3) := by decide +kernel
theorem dX11_report_73 : decode cX11_report 73 = .ok (.aload_n 0, 1) := by decide +kernel
theorem dX11_report_74 : decode cX11_report 74 = .ok (.getfield 93, 3) := by decide +kernel
theorem dX11_report_77 : decode cX11_report 77 = .ok (.iconst 4, 1) := by decide +kernel
theorem dX11_report_78 : decode cX11_report 78 = .ok (.aload_n 0, 1) := by decide +kernel
theorem dX11_report_79 : decode cX11_report 79 = .ok (.getfield 334, 3) := by decide +kernel
theorem dX11_report_82 : decode cX11_report 82 = .ok (.imul, 1) := by decide +kernel
theorem dX11_report_83 : decode cX11_report 83 = .ok (.iload_n 3, 1) := by decide +kernel
theorem dX11_report_84 : decode cX11_report 84 = .ok (.iadd, 1) := by decide +kernel
theorem dX11_report_85 : decode cX11_report 85 = .ok (.aload_n 0, 1) := by decide +kernel
theorem dX11_report_86 : decode cX11_report 86 = .ok (.getfield 69, 3) := by decide +kernel
theorem dX11_report_89 : decode cX11_report 89 = .ok (.iload_n 3, 1) := by decide +kernel
theorem dX11_report_90 : decode cX11_report 90 = .ok (.iaload, 1) := by decide +kernel
theorem dX11_report_91 : decode cX11_report 91 = .ok (.iastore, 1) := by decide +kernel
theorem dX11_report_92 : decode cX11_report 92 = .ok (.iinc 3 1, 3) := by decide +kernel
theorem dX11_report_95 : decode cX11_report 95 = .ok (.goto (-27), 3) := by decide +kernel
theorem dX11_report_98 : decode cX11_report 98 = .ok (.aload_n 0, 1) := by decide +kernel
theorem dX11_report_99 : decode cX11_report 99 = .ok (.getfield 96, 3) := by decide +kernel
theorem dX11_report_102 : decode cX11_report 102 = .ok (.aload_n 0, 1) := by decide +kernel
theorem dX11_report_103 : decode cX11_report 103 = .ok (.getfield 334, 3) := by decide +kernel
theorem dX11_report_106 : decode cX11_report 106 = .ok (.iload_n 2, 1) := by decide +kernel
theorem dX11_report_107 : decode cX11_report 107 = .ok (.iastore, 1) := by decide +kernel
theorem dX11_report_108 : decode cX11_report 108 = .ok (.aload_n 0, 1) := by decide +kernel
theorem dX11_report_109 : decode cX11_report 109 = .ok (.getfield 99, 3) := by decide +kernel
theorem dX11_report_112 : decode cX11_report 112 = .ok (.aload_n 0, 1) := by decide +kernel
theorem dX11_report_113 : decode cX11_report 113 = .ok (.getfield 334, 3) := by decide +kernel
theorem dX11_report_116 : decode cX11_report 116 = .ok (.aload_n 0, 1) := by decide +kernel
theorem dX11_report_117 : decode cX11_report 117 = .ok (.getfield 268, 3) := by decide +kernel
theorem dX11_report_120 : decode cX11_report 120 = .ok (.iastore, 1) := by decide +kernel
theorem dX11_report_121 : decode cX11_report 121 = .ok (.aload_n 0, 1) := by decide +kernel
theorem dX11_report_122 : decode cX11_report 122 = .ok (.dup, 1) := by decide +kernel
theorem dX11_report_123 : decode cX11_report 123 = .ok (.getfield 334, 3) := by decide +kernel
theorem dX11_report_126 : decode cX11_report 126 = .ok (.iconst 1, 1) := by decide +kernel
theorem dX11_report_127 : decode cX11_report 127 = .ok (.iadd, 1) := by decide +kernel
theorem dX11_report_128 : decode cX11_report 128 = .ok (.putfield 334, 3) := by decide +kernel
theorem dX11_report_131 : decode cX11_report 131 = .ok (.aload_n 0, 1) := by decide +kernel
theorem dX11_report_132 : decode cX11_report 132 = .ok (.getfield 334, 3) := by decide +kernel
theorem dX11_report_135 : decode cX11_report 135 = .ok (.ireturn, 1) := by decide +kernel
theorem dX11_dueOf_0 : decode cX11_dueOf 0 = .ok (.aload_n 0, 1) := by decide +kernel
theorem dX11_dueOf_1 : decode cX11_dueOf 1 = .ok (.aload_n 0, 1) := by decide +kernel
theorem dX11_dueOf_2 : decode cX11_dueOf 2 = .ok (.getfield 93, 3) := by decide +kernel
theorem dX11_dueOf_5 : decode cX11_dueOf 5 = .ok (.iconst 4, 1) := by decide +kernel
theorem dX11_dueOf_6 : decode cX11_dueOf 6 = .ok (.iload_n 1, 1) := by decide +kernel
theorem dX11_dueOf_7 : decode cX11_dueOf 7 = .ok (.imul, 1) := by decide +kernel
theorem dX11_dueOf_8 : decode cX11_dueOf 8 = .ok (.invokevirtual 271, 3) := by decide +kernel
theorem dX11_dueOf_11 : decode cX11_dueOf 11 = .ok (.aload_n 0, 1) := by decide +kernel
theorem dX11_dueOf_12 : decode cX11_dueOf 12 = .ok (.aload_n 0, 1) := by decide +kernel
theorem dX11_dueOf_13 : decode cX11_dueOf 13 = .ok (.getfield 41, 3) := by decide +kernel
theorem dX11_dueOf_16 : decode cX11_dueOf 16 = .ok (.aload_n 0, 1) := by decide +kernel
theorem dX11_dueOf_17 : decode cX11_dueOf 17 = .ok (.getfield 90, 3) := by decide +kernel
theorem dX11_dueOf_20 : decode cX11_dueOf 20 = .ok (.iload_n 1, 1) := by decide +kernel
theorem dX11_dueOf_21 : decode cX11_dueOf 21 = .ok (.iaload, 1) := by decide +kernel
theorem dX11_dueOf_22 : decode cX11_dueOf 22 = .ok (.iaload, 1) := by decide +kernel
theorem dX11_dueOf_23 : decode cX11_dueOf 23 = .ok (.aload_n 0, 1) := by decide +kernel
theorem dX11_dueOf_24 : decode cX11_dueOf 24 = .ok (.aload_n 0, 1) := by decide +kernel
theorem dX11_dueOf_25 : decode cX11_dueOf 25 = .ok (.getfield 90, 3) := by decide +kernel
theorem dX11_dueOf_28 : decode cX11_dueOf 28 = .ok (.iload_n 1, 1) := by decide +kernel
theorem dX11_dueOf_29 : decode cX11_dueOf 29 = .ok (.iaload, 1) := by decide +kernel
theorem dX11_dueOf_30 : decode cX11_dueOf 30 = .ok (.aload_n 0, 1) := by decide +kernel
theorem dX11_dueOf_31 : decode cX11_dueOf 31 = .ok (.getfield 99, 3) := by decide +kernel
theorem dX11_dueOf_34 : decode cX11_dueOf 34 = .ok (.iload_n 1, 1) := by decide +kernel
theorem dX11_dueOf_35 : decode cX11_dueOf 35 = .ok (.iaload, 1) := by decide +kernel
theorem dX11_dueOf_36 : decode cX11_dueOf 36 = .ok (.invokevirtual 275, 3) := by decide +kernel
theorem dX11_dueOf_39 : decode cX11_dueOf 39 = .ok (.invokevirtual 279, 3) := by decide +kernel
theorem dX11_dueOf_42 : decode cX11_dueOf 42 = .ok (.ireturn, 1) := by decide +kernel
theorem dX11_habitOf_0 : decode cX11_habitOf 0 = .ok (.iconst 0, 1) := by decide +kernel
theorem dX11_habitOf_1 : decode cX11_habitOf 1 = .ok (.istore_n 2, 1) := by decide +kernel
theorem dX11_habitOf_2 : decode cX11_habitOf 2 = .ok (.iconst 0, 1) := by decide +kernel
theorem dX11_habitOf_3 : decode cX11_habitOf 3 = .ok (.istore_n 3, 1) := by decide +kernel
theorem dX11_habitOf_4 : decode cX11_habitOf 4 = .ok (.iconst 0, 1) := by decide +kernel
theorem dX11_habitOf_5 : decode cX11_habitOf 5 = .ok (.istore 4, 2) := by decide +kernel
theorem dX11_habitOf_7 : decode cX11_habitOf 7 = .ok (.iload 4, 2) := by decide +kernel
theorem dX11_habitOf_9 : decode cX11_habitOf 9 = .ok (.bipush 9, 2) := by decide +kernel
theorem dX11_habitOf_11 : decode cX11_habitOf 11 = .ok (.if_icmp .gt 129, 3) := by decide +kernel
theorem dX11_habitOf_14 : decode cX11_habitOf 14 = .ok (.iconst 0, 1) := by decide +kernel
theorem dX11_habitOf_15 : decode cX11_habitOf 15 = .ok (.istore 5, 2) := by decide +kernel
theorem dX11_habitOf_17 : decode cX11_habitOf 17 = .ok (.iload 5, 2) := by decide +kernel
theorem dX11_habitOf_19 : decode cX11_habitOf 19 = .ok (.iconst 2, 1) := by decide +kernel
theorem dX11_habitOf_20 : decode cX11_habitOf 20 = .ok (.if_icmp .ge 114, 3) := by decide +kernel
theorem dX11_habitOf_23 : decode cX11_habitOf 23 = .ok (.iload 5, 2) := by decide +kernel
theorem dX11_habitOf_25 : decode cX11_habitOf 25 = .ok (.ifCond .ne 9, 3) := by decide +kernel
theorem dX11_habitOf_28 : decode cX11_habitOf 28 = .ok (.iload 4, 2) := by decide +kernel
theorem dX11_habitOf_30 : decode cX11_habitOf 30 = .ok (.ineg, 1) := by decide +kernel
theorem dX11_habitOf_31 : decode cX11_habitOf 31 = .ok (.goto 5, 3) := by decide +kernel
theorem dX11_habitOf_34 : decode cX11_habitOf 34 = .ok (.iload 4, 2) := by decide +kernel
theorem dX11_habitOf_36 : decode cX11_habitOf 36 = .ok (.istore 6, 2) := by decide +kernel
theorem dX11_habitOf_38 : decode cX11_habitOf 38 = .ok (.iconst 0, 1) := by decide +kernel
theorem dX11_habitOf_39 : decode cX11_habitOf 39 = .ok (.istore 7, 2) := by decide +kernel
theorem dX11_habitOf_41 : decode cX11_habitOf 41 = .ok (.iconst 0, 1) := by decide +kernel
theorem dX11_habitOf_42 : decode cX11_habitOf 42 = .ok (.istore 8, 2) := by decide +kernel
theorem dX11_habitOf_44 : decode cX11_habitOf 44 = .ok (.iload 8, 2) := by decide +kernel
theorem dX11_habitOf_46 : decode cX11_habitOf 46 = .ok (.aload_n 0, 1) := by decide +kernel
theorem dX11_habitOf_47 : decode cX11_habitOf 47 = .ok (.getfield 334, 3) := by decide +kernel
theorem dX11_habitOf_50 : decode cX11_habitOf 50 = .ok (.if_icmp .ge 63, 3) := by decide +kernel
theorem dX11_habitOf_53 : decode cX11_habitOf 53 = .ok (.aload_n 0, 1) := by decide +kernel
theorem dX11_habitOf_54 : decode cX11_habitOf 54 = .ok (.getfield 87, 3) := by decide +kernel
theorem dX11_habitOf_57 : decode cX11_habitOf 57 = .ok (.iload 8, 2) := by decide +kernel
theorem dX11_habitOf_59 : decode cX11_habitOf 59 = .ok (.iaload, 1) := by decide +kernel
theorem dX11_habitOf_60 : decode cX11_habitOf 60 = .ok (.iload_n 1, 1) := by decide +kernel
theorem dX11_habitOf_61 : decode cX11_habitOf 61 = .ok (.if_icmp .ne 12, 3) := by decide +kernel
theorem dX11_habitOf_64 : decode cX11_habitOf 64 = .ok (.aload_n 0, 1) := by decide +kernel
theorem dX11_habitOf_65 : decode cX11_habitOf 65 = .ok (.iload 8, 2) := by decide +kernel
theorem dX11_habitOf_67 : decode cX11_habitOf 67 = .ok (.invokevirtual 337, 3) := by decide +kernel
theorem dX11_habitOf_70 : decode cX11_habitOf 70 = .ok (.goto 4, 3) := by decide +kernel
theorem dX11_habitOf_73 : decode cX11_habitOf 73 = .ok (.iconst (-1), 1) := by decide +kernel
theorem dX11_habitOf_74 : decode cX11_habitOf 74 = .ok (.istore 9, 2) := by decide +kernel
theorem dX11_habitOf_76 : decode cX11_habitOf 76 = .ok (.iload 7, 2) := by decide +kernel
theorem dX11_habitOf_78 : decode cX11_habitOf 78 = .ok (.iload 9, 2) := by decide +kernel
theorem dX11_habitOf_80 : decode cX11_habitOf 80 = .ok (.iconst (-1), 1) := by decide +kernel
theorem dX11_habitOf_81 : decode cX11_habitOf 81 = .ok (.if_icmp .eq 22, 3) := by decide +kernel
theorem dX11_habitOf_84 : decode cX11_habitOf 84 = .ok (.aload_n 0, 1) := by decide +kernel
theorem dX11_habitOf_85 : decode cX11_habitOf 85 = .ok (.getfield 96, 3) := by decide +kernel
theorem dX11_habitOf_88 : decode cX11_habitOf 88 = .ok (.iload 8, 2) := by decide +kernel
theorem dX11_habitOf_90 : decode cX11_habitOf 90 = .ok (.iaload, 1) := by decide +kernel
theorem dX11_habitOf_91 : decode cX11_habitOf 91 = .ok (.iload 9, 2) := by decide +kernel
theorem dX11_habitOf_93 : decode cX11_habitOf 93 = .ok (.isub, 1) := by decide +kernel
theorem dX11_habitOf_94 : decode cX11_habitOf 94 = .ok (.iload 6, 2) := by decide +kernel
theorem dX11_habitOf_96 : decode cX11_habitOf 96 = .ok (.if_icmp .ne 7, 3) := by decide +kernel
theorem dX11_habitOf_99 : decode cX11_habitOf 99 = .ok (.iconst 1, 1) := by decide +kernel
theorem dX11_habitOf_100 : decode cX11_habitOf 100 = .ok (.goto 4, 3) := by decide +kernel
theorem dX11_habitOf_103 : decode cX11_habitOf 103 = .ok (.iconst 0, 1) := by decide +kernel
theorem dX11_habitOf_104 : decode cX11_habitOf 104 = .ok (.iadd, 1) := by decide +kernel
theorem dX11_habitOf_105 : decode cX11_habitOf 105 = .ok (.istore 7, 2) := by decide +kernel
theorem dX11_habitOf_107 : decode cX11_habitOf 107 = .ok (.iinc 8 1, 3) := by decide +kernel
theorem dX11_habitOf_110 : decode cX11_habitOf 110 = .ok (.goto (-66), 3) := by decide +kernel
theorem dX11_habitOf_113 : decode cX11_habitOf 113 = .ok (.iload 7, 2) := by decide +kernel
theorem dX11_habitOf_115 : decode cX11_habitOf 115 = .ok (.iload_n 3, 1) := by decide +kernel
theorem dX11_habitOf_116 : decode cX11_habitOf 116 = .ok (.if_icmp .gt 6, 3) := by decide +kernel
theorem dX11_habitOf_119 : decode cX11_habitOf 119 = .ok (.goto 9, 3) := by decide +kernel
theorem dX11_habitOf_122 : decode cX11_habitOf 122 = .ok (.iload 7, 2) := by decide +kernel
theorem dX11_habitOf_124 : decode cX11_habitOf 124 = .ok (.istore_n 3, 1) := by decide +kernel
theorem dX11_habitOf_125 : decode cX11_habitOf 125 = .ok (.iload 6, 2) := by decide +kernel
theorem dX11_habitOf_127 : decode cX11_habitOf 127 = .ok (.istore_n 2, 1) := by decide +kernel
theorem dX11_habitOf_128 : decode cX11_habitOf 128 = .ok (.iinc 5 1, 3) := by decide +kernel
theorem dX11_habitOf_131 : decode cX11_habitOf 131 = .ok (.goto (-114), 3) := by decide +kernel
theorem dX11_habitOf_134 : decode cX11_habitOf 134 = .ok (.iinc 4 1, 3) := by decide +kernel
theorem dX11_habitOf_137 : decode cX11_habitOf 137 = .ok (.goto (-130), 3) := by decide +kernel
theorem dX11_habitOf_140 : decode cX11_habitOf 140 = .ok (.iload_n 2, 1) := by decide +kernel
theorem dX11_habitOf_141 : decode cX11_habitOf 141 = .ok (.ireturn, 1) := by decide +kernel
theorem dX11_habit_0 : decode cX11_habit 0 = .ok (.iload_n 1, 1) := by decide +kernel
theorem dX11_habit_1 : decode cX11_habit 1 = .ok (.i2l, 1) := by decide +kernel
theorem dX11_habit_2 : decode cX11_habit 2 = .ok (.lconst 0, 1) := by decide +kernel
theorem dX11_habit_3 : decode cX11_habit 3 = .ok (.ldc2_w 330, 3) := by decide +kernel
theorem dX11_habit_6 : decode cX11_habit 6 = .ok (.invokestatic 139, 3) := by decide +kernel
theorem dX11_habit_9 : decode cX11_habit 9 = .ok (.ifCond .eq 11, 3) := by decide +kernel
theorem dX11_habit_12 : decode cX11_habit 12 = .ok (.aload_n 0, 1) := by decide +kernel
theorem dX11_habit_13 : decode cX11_habit 13 = .ok (.iload_n 1, 1) := by decide +kernel
theorem dX11_habit_14 : decode cX11_habit 14 = .ok (.invokevirtual 340, 3) := by decide +kernel
theorem dX11_habit_17 : decode cX11_habit 17 = .ok (.goto 5, 3) := by decide +kernel
theorem dX11_habit_20 : decode cX11_habit 20 = .ok (.ldc 189, 2) := by decide +kernel
theorem dX11_habit_22 : decode cX11_habit 22 = .ok (.ireturn, 1) := by decide +kernel
theorem dX11_stands_0 : decode cX11_stands 0 = .ok (.aload_n 0, 1) := by decide +kernel
theorem dX11_stands_1 : decode cX11_stands 1 = .ok (.iload_n 1, 1) := by decide +kernel
theorem dX11_stands_2 : decode cX11_stands 2 = .ok (.invokevirtual 337, 3) := by decide +kernel
theorem dX11_stands_5 : decode cX11_stands 5 = .ok (.istore_n 3, 1) := by decide +kernel
theorem dX11_stands_6 : decode cX11_stands 6 = .ok (.iload_n 3, 1) := by decide +kernel
theorem dX11_stands_7 : decode cX11_stands 7 = .ok (.iconst (-1), 1) := by decide +kernel
theorem dX11_stands_8 : decode cX11_stands 8 = .ok (.if_icmp .ne 5, 3) := by decide +kernel
theorem dX11_stands_11 : decode cX11_stands 11 = .ok (.iconst (-1), 1) := by decide +kernel
theorem dX11_stands_12 : decode cX11_stands 12 = .ok (.ireturn, 1) := by decide +kernel
theorem dX11_stands_13 : decode cX11_stands 13 = .ok (.aload_n 0, 1) := by decide +kernel
theorem dX11_stands_14 : decode cX11_stands 14 = .ok (.getfield 96, 3) := by decide +kernel
theorem dX11_stands_17 : decode cX11_stands 17 = .ok (.iload_n 1, 1) := by decide +kernel
theorem dX11_stands_18 : decode cX11_stands 18 = .ok (.iaload, 1) := by decide +kernel
theorem dX11_stands_19 : decode cX11_stands 19 = .ok (.iload_n 3, 1) := by decide +kernel
theorem dX11_stands_20 : decode cX11_stands 20 = .ok (.isub, 1) := by decide +kernel
theorem dX11_stands_21 : decode cX11_stands 21 = .ok (.aload_n 0, 1) := by decide +kernel
theorem dX11_stands_22 : decode cX11_stands 22 = .ok (.aload_n 0, 1) := by decide +kernel
theorem dX11_stands_23 : decode cX11_stands 23 = .ok (.getfield 87, 3) := by decide +kernel
theorem dX11_stands_26 : decode cX11_stands 26 = .ok (.iload_n 1, 1) := by decide +kernel
theorem dX11_stands_27 : decode cX11_stands 27 = .ok (.iaload, 1) := by decide +kernel
theorem dX11_stands_28 : decode cX11_stands 28 = .ok (.invokevirtual 340, 3) := by decide +kernel
theorem dX11_stands_31 : decode cX11_stands 31 = .ok (.isub, 1) := by decide +kernel
theorem dX11_stands_32 : decode cX11_stands 32 = .ok (.istore 4, 2) := by decide +kernel
theorem dX11_stands_34 : decode cX11_stands 34 = .ok (.iload 4, 2) := by decide +kernel
theorem dX11_stands_36 : decode cX11_stands 36 = .ok (.iload_n 2, 1) := by decide +kernel
theorem dX11_stands_37 : decode cX11_stands 37 = .ok (.if_icmp .gt 10, 3) := by decide +kernel
theorem dX11_stands_40 : decode cX11_stands 40 = .ok (.iload 4, 2) := by decide +kernel
theorem dX11_stands_42 : decode cX11_stands 42 = .ok (.ineg, 1) := by decide +kernel
theorem dX11_stands_43 : decode cX11_stands 43 = .ok (.iload_n 2, 1) := by decide +kernel
theorem dX11_stands_44 : decode cX11_stands 44 = .ok (.if_icmp .le 7, 3) := by decide +kernel
theorem dX11_stands_47 : decode cX11_stands 47 = .ok (.iconst 1, 1) := by decide +kernel
theorem dX11_stands_48 : decode cX11_stands 48 = .ok (.goto 4, 3) := by decide +kernel
theorem dX11_stands_51 : decode cX11_stands 51 = .ok (.iconst 0, 1) := by decide +kernel
theorem dX11_stands_52 : decode cX11_stands 52 = .ok (.ireturn, 1) := by decide +kernel
theorem dX11_due_0 : decode cX11_due 0 = .ok (.iload_n 1, 1) := by decide +kernel
theorem dX11_due_1 : decode cX11_due 1 = .ok (.i2l, 1) := by decide +kernel
theorem dX11_due_2 : decode cX11_due 2 = .ok (.lconst 0, 1) := by decide +kernel
theorem dX11_due_3 : decode cX11_due 3 = .ok (.aload_n 0, 1) := by decide +kernel
theorem dX11_due_4 : decode cX11_due 4 = .ok (.getfield 334, 3) := by decide +kernel
theorem dX11_due_7 : decode cX11_due 7 = .ok (.iconst 1, 1) := by decide +kernel
theorem dX11_due_8 : decode cX11_due 8 = .ok (.isub, 1) := by decide +kernel
theorem dX11_due_9 : decode cX11_due 9 = .ok (.i2l, 1) := by decide +kernel
theorem dX11_due_10 : decode cX11_due 10 = .ok (.invokestatic 139, 3) := by decide +kernel
theorem dX11_due_13 : decode cX11_due 13 = .ok (.ifCond .eq 25, 3) := by decide +kernel
theorem dX11_due_16 : decode cX11_due 16 = .ok (.iload_n 2, 1) := by decide +kernel
theorem dX11_due_17 : decode cX11_due 17 = .ok (.i2l, 1) := by decide +kernel
theorem dX11_due_18 : decode cX11_due 18 = .ok (.lconst 0, 1) := by decide +kernel
theorem dX11_due_19 : decode cX11_due 19 = .ok (.ldc2_w 343, 3) := by decide +kernel
theorem dX11_due_22 : decode cX11_due 22 = .ok (.invokestatic 139, 3) := by decide +kernel
theorem dX11_due_25 : decode cX11_due 25 = .ok (.ifCond .eq 13, 3) := by decide +kernel
theorem dX11_due_28 : decode cX11_due 28 = .ok (.iload_n 3, 1) := by decide +kernel
theorem dX11_due_29 : decode cX11_due 29 = .ok (.i2l, 1) := by decide +kernel
theorem dX11_due_30 : decode cX11_due 30 = .ok (.lconst 0, 1) := by decide +kernel
theorem dX11_due_31 : decode cX11_due 31 = .ok (.lconst 1, 1) := by decide +kernel
theorem dX11_due_32 : decode cX11_due 32 = .ok (.invokestatic 139, 3) := by decide +kernel
theorem dX11_due_35 : decode cX11_due 35 = .ok (.ifCond .ne 6, 3) := by decide +kernel
theorem dX11_due_38 : decode cX11_due 38 = .ok (.ldc 189, 2) := by decide +kernel
theorem dX11_due_40 : decode cX11_due 40 = .ok (.ireturn, 1) := by decide +kernel
theorem dX11_due_41 : decode cX11_due 41 = .ok (.iload_n 3, 1) := by decide +kernel
theorem dX11_due_42 : decode cX11_due 42 = .ok (.ifCond .ne 11, 3) := by decide +kernel
theorem dX11_due_45 : decode cX11_due 45 = .ok (.aload_n 0, 1) := by decide +kernel
theorem dX11_due_46 : decode cX11_due 46 = .ok (.iload_n 1, 1) := by decide +kernel
theorem dX11_due_47 : decode cX11_due 47 = .ok (.invokevirtual 337, 3) := by decide +kernel
theorem dX11_due_50 : decode cX11_due 50 = .ok (.goto 18, 3) := by decide +kernel
theorem dX11_due_53 : decode cX11_due 53 = .ok (.aload_n 0, 1) := by decide +kernel
theorem dX11_due_54 : decode cX11_due 54 = .ok (.iload_n 1, 1) := by decide +kernel
theorem dX11_due_55 : decode cX11_due 55 = .ok (.iload_n 2, 1) := by decide +kernel
theorem dX11_due_56 : decode cX11_due 56 = .ok (.invokevirtual 345, 3) := by decide +kernel
theorem dX11_due_59 : decode cX11_due 59 = .ok (.iconst 1, 1) := by decide +kernel
theorem dX11_due_60 : decode cX11_due 60 = .ok (.if_icmp .ne 7, 3) := by decide +kernel
theorem dX11_due_63 : decode cX11_due 63 = .ok (.iconst 1, 1) := by decide +kernel
theorem dX11_due_64 : decode cX11_due 64 = .ok (.goto 4, 3) := by decide +kernel
theorem dX11_due_67 : decode cX11_due 67 = .ok (.iconst 0, 1) := by decide +kernel
theorem dX11_due_68 : decode cX11_due 68 = .ok (.ireturn, 1) := by decide +kernel
theorem dX11_has_0 : decode cX11_has 0 = .ok (.aload_n 0, 1) := by decide +kernel
theorem dX11_has_1 : decode cX11_has 1 = .ok (.getfield 90, 3) := by decide +kernel
theorem dX11_has_4 : decode cX11_has 4 = .ok (.iload_n 1, 1) := by decide +kernel
theorem dX11_has_5 : decode cX11_has 5 = .ok (.iaload, 1) := by decide +kernel
theorem dX11_has_6 : decode cX11_has 6 = .ok (.istore_n 3, 1) := by decide +kernel
theorem dX11_has_7 : decode cX11_has 7 = .ok (.iconst 0, 1) := by decide +kernel
theorem dX11_has_8 : decode cX11_has 8 = .ok (.istore 4, 2) := by decide +kernel
theorem dX11_has_10 : decode cX11_has 10 = .ok (.iload 4, 2) := by decide +kernel
theorem dX11_has_12 : decode cX11_has 12 = .ok (.aload_n 0, 1) := by decide +kernel
theorem dX11_has_13 : decode cX11_has 13 = .ok (.getfield 23, 3) := by decide +kernel
theorem dX11_has_16 : decode cX11_has 16 = .ok (.aload_n 0, 1) := by decide +kernel
theorem dX11_has_17 : decode cX11_has 17 = .ok (.getfield 41, 3) := by decide +kernel
theorem dX11_has_20 : decode cX11_has 20 = .ok (.iload_n 3, 1) := by decide +kernel
theorem dX11_has_21 : decode cX11_has 21 = .ok (.iaload, 1) := by decide +kernel
theorem dX11_has_22 : decode cX11_has 22 = .ok (.iaload, 1) := by decide +kernel
theorem dX11_has_23 : decode cX11_has 23 = .ok (.iconst 1, 1) := by decide +kernel
theorem dX11_has_24 : decode cX11_has 24 = .ok (.isub, 1) := by decide +kernel
theorem dX11_has_25 : decode cX11_has 25 = .ok (.if_icmp .ge 47, 3) := by decide +kernel
theorem dX11_has_28 : decode cX11_has 28 = .ok (.aload_n 0, 1) := by decide +kernel
theorem dX11_has_29 : decode cX11_has 29 = .ok (.getfield 44, 3) := by decide +kernel
theorem dX11_has_32 : decode cX11_has 32 = .ok (.iconst 4, 1) := by decide +kernel
theorem dX11_has_33 : decode cX11_has 33 = .ok (.iload_n 3, 1) := by decide +kernel
theorem dX11_has_34 : decode cX11_has 34 = .ok (.imul, 1) := by decide +kernel
theorem dX11_has_35 : decode cX11_has 35 = .ok (.iload 4, 2) := by decide +kernel
theorem dX11_has_37 : decode cX11_has 37 = .ok (.iadd, 1) := by decide +kernel
theorem dX11_has_38 : decode cX11_has 38 = .ok (.iaload, 1) := by decide +kernel
theorem dX11_has_39 : decode cX11_has 39 = .ok (.iload_n 2, 1) := by decide +kernel
theorem dX11_has_40 : decode cX11_has 40 = .ok (.bipush 100, 2) := by decide +kernel
theorem dX11_has_42 : decode cX11_has 42 = .ok (.idiv, 1) := by decide +kernel
theorem dX11_has_43 : decode cX11_has 43 = .ok (.if_icmp .ne 23, 3) := by decide +kernel
theorem dX11_has_46 : decode cX11_has 46 = .ok (.aload_n 0, 1) := by decide +kernel
theorem dX11_has_47 : decode cX11_has 47 = .ok (.getfield 93, 3) := by decide +kernel
theorem dX11_has_50 : decode cX11_has 50 = .ok (.iconst 4, 1) := by decide +kernel
theorem dX11_has_51 : decode cX11_has 51 = .ok (.iload_n 1, 1) := by decide +kernel
theorem dX11_has_52 : decode cX11_has 52 = .ok (.imul, 1) := by decide +kernel
theorem dX11_has_53 : decode cX11_has 53 = .ok (.iload 4, 2) := by decide +kernel
theorem dX11_has_55 : decode cX11_has 55 = .ok (.iadd, 1) := by decide +kernel
theorem dX11_has_56 : decode cX11_has 56 = .ok (.iaload, 1) := by decide +kernel
theorem dX11_has_57 : decode cX11_has 57 = .ok (.iload_n 2, 1) := by decide +kernel
theorem dX11_has_58 : decode cX11_has 58 = .ok (.bipush 100, 2) := by decide +kernel
theorem dX11_has_60 : decode cX11_has 60 = .ok (.irem, 1) := by decide +kernel
theorem dX11_has_61 : decode cX11_has 61 = .ok (.if_icmp .ne 5, 3) := by decide +kernel
theorem dX11_has_64 : decode cX11_has 64 = .ok (.iconst 1, 1) := by decide +kernel
theorem dX11_has_65 : decode cX11_has 65 = .ok (.ireturn, 1) := by decide +kernel
theorem dX11_has_66 : decode cX11_has 66 = .ok (.iinc 4 1, 3) := by decide +kernel
theorem dX11_has_69 : decode cX11_has 69 = .ok (.goto (-59), 3) := by decide +kernel
theorem dX11_has_72 : decode cX11_has 72 = .ok (.iconst 0, 1) := by decide +kernel
theorem dX11_has_73 : decode cX11_has 73 = .ok (.ireturn, 1) := by decide +kernel
theorem dX11_bits_0 : decode cX11_bits 0 = .ok (.iconst 0, 1) := by decide +kernel
theorem dX11_bits_1 : decode cX11_bits 1 = .ok (.istore_n 1, 1) := by decide +kernel
theorem dX11_bits_2 : decode cX11_bits 2 = .ok (.iconst 0, 1) := by decide +kernel
theorem dX11_bits_3 : decode cX11_bits 3 = .ok (.istore_n 2, 1) := by decide +kernel
theorem dX11_bits_4 : decode cX11_bits 4 = .ok (.iload_n 2, 1) := by decide +kernel
theorem dX11_bits_5 : decode cX11_bits 5 = .ok (.bipush 12, 2) := by decide +kernel
theorem dX11_bits_7 : decode cX11_bits 7 = .ok (.if_icmp .ge 17, 3) := by decide +kernel
theorem dX11_bits_10 : decode cX11_bits 10 = .ok (.iload_n 1, 1) := by decide +kernel
theorem dX11_bits_11 : decode cX11_bits 11 = .ok (.iload_n 0, 1) := by decide +kernel
theorem dX11_bits_12 : decode cX11_bits 12 = .ok (.iload_n 2, 1) := by decide +kernel
theorem dX11_bits_13 : decode cX11_bits 13 = .ok (.ishr, 1) := by decide +kernel
theorem dX11_bits_14 : decode cX11_bits 14 = .ok (.iconst 1, 1) := by decide +kernel
theorem dX11_bits_15 : decode cX11_bits 15 = .ok (.iand, 1) := by decide +kernel
theorem dX11_bits_16 : decode cX11_bits 16 = .ok (.iadd, 1) := by decide +kernel
theorem dX11_bits_17 : decode cX11_bits 17 = .ok (.istore_n 1, 1) := by decide +kernel
theorem dX11_bits_18 : decode cX11_bits 18 = .ok (.iinc 2 1, 3) := by decide +kernel
theorem dX11_bits_21 : decode cX11_bits 21 = .ok (.goto (-17), 3) := by decide +kernel
theorem dX11_bits_24 : decode cX11_bits 24 = .ok (.iload_n 1, 1) := by decide +kernel
theorem dX11_bits_25 : decode cX11_bits 25 = .ok (.ireturn, 1) := by decide +kernel
theorem dX11_finds_0 : decode cX11_finds 0 = .ok (.aload_n 0, 1) := by decide +kernel
theorem dX11_finds_1 : decode cX11_finds 1 = .ok (.iconst 0, 1) := by decide +kernel
theorem dX11_finds_2 : decode cX11_finds 2 = .ok (.putfield 348, 3) := by decide +kernel
theorem dX11_finds_5 : decode cX11_finds 5 = .ok (.aload_n 0, 1) := by decide +kernel
theorem dX11_finds_6 : decode cX11_finds 6 = .ok (.iconst (-1), 1) := by decide +kernel
theorem dX11_finds_7 : decode cX11_finds 7 = .ok (.putfield 351, 3) := by decide +kernel
theorem dX11_finds_10 : decode cX11_finds 10 = .ok (.aload_n 0, 1) := by decide +kernel
theorem dX11_finds_11 : decode cX11_finds 11 = .ok (.iconst 0, 1) := by decide +kernel
theorem dX11_finds_12 : decode cX11_finds 12 = .ok (.putfield 354, 3) := by decide +kernel
theorem dX11_finds_15 : decode cX11_finds 15 = .ok (.iconst 0, 1) := by decide +kernel
theorem dX11_finds_16 : decode cX11_finds 16 = .ok (.istore_n 3, 1) := by decide +kernel
theorem dX11_finds_17 : decode cX11_finds 17 = .ok (.iload_n 3, 1) := by decide +kernel
theorem dX11_finds_18 : decode cX11_finds 18 = .ok (.aload_n 0, 1) := by decide +kernel
theorem dX11_finds_19 : decode cX11_finds 19 = .ok (.getfield 334, 3) := by decide +kernel
theorem dX11_finds_22 : decode cX11_finds 22 = .ok (.if_icmp .ge 35, 3) := by decide +kernel
theorem dX11_finds_25 : decode cX11_finds 25 = .ok (.aload_n 0, 1) := by decide +kernel
theorem dX11_finds_26 : decode cX11_finds 26 = .ok (.getfield 124, 3) := by decide +kernel
theorem dX11_finds_29 : decode cX11_finds 29 = .ok (.iload_n 3, 1) := by decide +kernel
theorem dX11_finds_30 : decode cX11_finds 30 = .ok (.aload_n 0, 1) := by decide +kernel
theorem dX11_finds_31 : decode cX11_finds 31 = .ok (.getfield 90, 3) := by decide +kernel
theorem dX11_finds_34 : decode cX11_finds 34 = .ok (.iload_n 3, 1) := by decide +kernel
theorem dX11_finds_35 : decode cX11_finds 35 = .ok (.iaload, 1) := by decide +kernel
theorem dX11_finds_36 : decode cX11_finds 36 = .ok (.iload_n 1, 1) := by decide +kernel
theorem dX11_finds_37 : decode cX11_finds 37 = .ok (.if_icmp .ne 12, 3) := by decide +kernel
theorem dX11_finds_40 : decode cX11_finds 40 = .ok (.aload_n 0, 1) := by decide +kernel
theorem dX11_finds_41 : decode cX11_finds 41 = .ok (.iload_n 3, 1) := by decide +kernel
theorem dX11_finds_42 : decode cX11_finds 42 = .ok (.iload_n 2, 1) := by decide +kernel
theorem dX11_finds_43 : decode cX11_finds 43 = .ok (.invokevirtual 345, 3) := by decide +kernel
theorem dX11_finds_46 : decode cX11_finds 46 = .ok (.goto 4, 3) := by decide +kernel
theorem dX11_finds_49 : decode cX11_finds 49 = .ok (.iconst (-1), 1) := by decide +kernel
theorem dX11_finds_50 : decode cX11_finds 50 = .ok (.iastore, 1) := by decide +kernel
theorem dX11_finds_51 : decode cX11_finds 51 = .ok (.iinc 3 1, 3) := by decide +kernel
theorem dX11_finds_54 : decode cX11_finds 54 = .ok (.goto (-37), 3) := by decide +kernel
theorem dX11_finds_57 : decode cX11_finds 57 = .ok (.iconst 1, 1) := by decide +kernel
theorem dX11_finds_58 : decode cX11_finds 58 = .ok (.istore_n 3, 1) := by decide +kernel
theorem dX11_finds_59 : decode cX11_finds 59 = .ok (.iload_n 3, 1) := by decide +kernel
theorem dX11_finds_60 : decode cX11_finds 60 = .ok (.aload_n 0, 1) := by decide +kernel
theorem dX11_finds_61 : decode cX11_finds 61 = .ok (.getfield 23, 3) := by decide +kernel
theorem dX11_finds_64 : decode cX11_finds 64 = .ok (.aload_n 0, 1) := by decide +kernel
theorem dX11_finds_65 : decode cX11_finds 65 = .ok (.getfield 41, 3) := by decide +kernel
theorem dX11_finds_68 : decode cX11_finds 68 = .ok (.iload_n 1, 1) := by decide +kernel
theorem dX11_finds_69 : decode cX11_finds 69 = .ok (.iaload, 1) := by decide +kernel
theorem dX11_finds_70 : decode cX11_finds 70 = .ok (.iaload, 1) := by decide +kernel
theorem dX11_finds_71 : decode cX11_finds 71 = .ok (.if_icmp .ge 183, 3) := by decide +kernel
theorem dX11_finds_74 : decode cX11_finds 74 = .ok (.iconst 0, 1) := by decide +kernel
theorem dX11_finds_75 : decode cX11_finds 75 = .ok (.istore 4, 2) := by decide +kernel
theorem dX11_finds_77 : decode cX11_finds 77 = .ok (.iload 4, 2) := by decide +kernel
theorem dX11_finds_79 : decode cX11_finds 79 = .ok (.aload_n 0, 1) := by decide +kernel
theorem dX11_finds_80 : decode cX11_finds 80 = .ok (.getfield 35, 3) := by decide +kernel
theorem dX11_finds_83 : decode cX11_finds 83 = .ok (.iconst 5, 1) := by decide +kernel
theorem dX11_finds_84 : decode cX11_finds 84 = .ok (.aload_n 0, 1) := by decide +kernel
theorem dX11_finds_85 : decode cX11_finds 85 = .ok (.getfield 41, 3) := by decide +kernel
theorem dX11_finds_88 : decode cX11_finds 88 = .ok (.iload_n 1, 1) := by decide +kernel
theorem dX11_finds_89 : decode cX11_finds 89 = .ok (.iaload, 1) := by decide +kernel
theorem dX11_finds_90 : decode cX11_finds 90 = .ok (.imul, 1) := by decide +kernel
theorem dX11_finds_91 : decode cX11_finds 91 = .ok (.iload_n 3, 1) := by decide +kernel
theorem dX11_finds_92 : decode cX11_finds 92 = .ok (.iadd, 1) := by decide +kernel
theorem dX11_finds_93 : decode cX11_finds 93 = .ok (.iaload, 1) := by decide +kernel
theorem dX11_finds_94 : decode cX11_finds 94 = .ok (.if_icmp .ge 154, 3) := by decide +kernel
theorem dX11_finds_97 : decode cX11_finds 97 = .ok (.bipush 100, 2) := by decide +kernel
theorem dX11_finds_99 : decode cX11_finds 99 = .ok (.iload_n 3, 1) := by decide +kernel
theorem dX11_finds_100 : decode cX11_finds 100 = .ok (.imul, 1) := by decide +kernel
theorem dX11_finds_101 : decode cX11_finds 101 = .ok (.iload 4, 2) := by decide +kernel
theorem dX11_finds_103 : decode cX11_finds 103 = .ok (.iadd, 1) := by decide +kernel
theorem dX11_finds_104 : decode cX11_finds 104 = .ok (.istore 5, 2) := by decide +kernel
theorem dX11_finds_106 : decode cX11_finds 106 = .ok (.iconst 0, 1) := by decide +kernel
theorem dX11_finds_107 : decode cX11_finds 107 = .ok (.istore 6, 2) := by decide +kernel
theorem dX11_finds_109 : decode cX11_finds 109 = .ok (.iconst 0, 1) := by decide +kernel
theorem dX11_finds_110 : decode cX11_finds 110 = .ok (.istore 7, 2) := by decide +kernel
theorem dX11_finds_112 : decode cX11_finds 112 = .ok (.iconst 0, 1) := by decide +kernel
theorem dX11_finds_113 : decode cX11_finds 113 = .ok (.istore 8, 2) := by decide +kernel
theorem dX11_finds_115 : decode cX11_finds 115 = .ok (.iload 8, 2) := by decide +kernel
theorem dX11_finds_117 : decode cX11_finds 117 = .ok (.aload_n 0, 1) := by decide +kernel
theorem dX11_finds_118 : decode cX11_finds 118 = .ok (.getfield 334, 3) := by decide +kernel
theorem dX11_finds_121 : decode cX11_finds 121 = .ok (.if_icmp .ge 76, 3) := by decide +kernel
theorem dX11_finds_124 : decode cX11_finds 124 = .ok (.iload 6, 2) := by decide +kernel
theorem dX11_finds_126 : decode cX11_finds 126 = .ok (.ifCond .ne 25, 3) := by decide +kernel
theorem dX11_finds_129 : decode cX11_finds 129 = .ok (.aload_n 0, 1) := by decide +kernel
theorem dX11_finds_130 : decode cX11_finds 130 = .ok (.getfield 124, 3) := by decide +kernel
theorem dX11_finds_133 : decode cX11_finds 133 = .ok (.iload 8, 2) := by decide +kernel
theorem dX11_finds_135 : decode cX11_finds 135 = .ok (.iaload, 1) := by decide +kernel
theorem dX11_finds_136 : decode cX11_finds 136 = .ok (.iconst 1, 1) := by decide +kernel
theorem dX11_finds_137 : decode cX11_finds 137 = .ok (.if_icmp .ne 18, 3) := by decide +kernel
theorem dX11_finds_140 : decode cX11_finds 140 = .ok (.aload_n 0, 1) := by decide +kernel
theorem dX11_finds_141 : decode cX11_finds 141 = .ok (.iload 8, 2) := by decide +kernel
theorem dX11_finds_143 : decode cX11_finds 143 = .ok (.iload 5, 2) := by decide +kernel
theorem dX11_finds_145 : decode cX11_finds 145 = .ok (.invokevirtual 357, 3) := by decide +kernel
theorem dX11_finds_148 : decode cX11_finds 148 = .ok (.ifCond .eq 7, 3) := by decide +kernel
theorem dX11_finds_151 : decode cX11_finds 151 = .ok (.iconst 1, 1) := by decide +kernel
theorem dX11_finds_152 : decode cX11_finds 152 = .ok (.goto 4, 3) := by decide +kernel
theorem dX11_finds_155 : decode cX11_finds 155 = .ok (.iconst 0, 1) := by decide +kernel
theorem dX11_finds_156 : decode cX11_finds 156 = .ok (.istore 6, 2) := by decide +kernel
theorem dX11_finds_158 : decode cX11_finds 158 = .ok (.iload 7, 2) := by decide +kernel
theorem dX11_finds_160 : decode cX11_finds 160 = .ok (.ifCond .ne 24, 3) := by decide +kernel
theorem dX11_finds_163 : decode cX11_finds 163 = .ok (.aload_n 0, 1) := by decide +kernel
theorem dX11_finds_164 : decode cX11_finds 164 = .ok (.getfield 124, 3) := by decide +kernel
theorem dX11_finds_167 : decode cX11_finds 167 = .ok (.iload 8, 2) := by decide +kernel
theorem dX11_finds_169 : decode cX11_finds 169 = .ok (.iaload, 1) := by decide +kernel
theorem dX11_finds_170 : decode cX11_finds 170 = .ok (.ifCond .ne 18, 3) := by decide +kernel
theorem dX11_finds_173 : decode cX11_finds 173 = .ok (.aload_n 0, 1) := by decide +kernel
theorem dX11_finds_174 : decode cX11_finds 174 = .ok (.iload 8, 2) := by decide +kernel
theorem dX11_finds_176 : decode cX11_finds 176 = .ok (.iload 5, 2) := by decide +kernel
theorem dX11_finds_178 : decode cX11_finds 178 = .ok (.invokevirtual 357, 3) := by decide +kernel
theorem dX11_finds_181 : decode cX11_finds 181 = .ok (.ifCond .eq 7, 3) := by decide +kernel
theorem dX11_finds_184 : decode cX11_finds 184 = .ok (.iconst 1, 1) := by decide +kernel
theorem dX11_finds_185 : decode cX11_finds 185 = .ok (.goto 4, 3) := by decide +kernel
theorem dX11_finds_188 : decode cX11_finds 188 = .ok (.iconst 0, 1) := by decide +kernel
theorem dX11_finds_189 : decode cX11_finds 189 = .ok (.istore 7, 2) := by decide +kernel
theorem dX11_finds_191 : decode cX11_finds 191 = .ok (.iinc 8 1, 3) := by decide +kernel
theorem dX11_finds_194 : decode cX11_finds 194 = .ok (.goto (-79), 3) := by decide +kernel
theorem dX11_finds_197 : decode cX11_finds 197 = .ok (.iload 6, 2) := by decide +kernel
theorem dX11_finds_199 : decode cX11_finds 199 = .ok (.ifCond .eq 43, 3) := by decide +kernel
theorem dX11_finds_202 : decode cX11_finds 202 = .ok (.iload 7, 2) := by decide +kernel
theorem dX11_finds_204 : decode cX11_finds 204 = .ok (.ifCond .eq 6, 3) := by decide +kernel
theorem dX11_finds_207 : decode cX11_finds 207 = .ok (.goto 35, 3) := by decide +kernel
theorem dX11_finds_210 : decode cX11_finds 210 = .ok (.aload_n 0, 1) := by decide +kernel
theorem dX11_finds_211 : decode cX11_finds 211 = .ok (.getfield 348, 3) := by decide +kernel
theorem dX11_finds_214 : decode cX11_finds 214 = .ok (.bipush 12, 2) := by decide +kernel
theorem dX11_finds_216 : decode cX11_finds 216 = .ok (.if_icmp .ne 5, 3) := by decide +kernel
theorem dX11_finds_219 : decode cX11_finds 219 = .ok (.iconst 0, 1) := by decide +kernel
theorem dX11_finds_220 : decode cX11_finds 220 = .ok (.ireturn, 1) := by decide +kernel
theorem dX11_finds_221 : decode cX11_finds 221 = .ok (.aload_n 0, 1) := by decide +kernel
theorem dX11_finds_222 : decode cX11_finds 222 = .ok (.getfield 127, 3) := by decide +kernel
theorem dX11_finds_225 : decode cX11_finds 225 = .ok (.aload_n 0, 1) := by decide +kernel
theorem dX11_finds_226 : decode cX11_finds 226 = .ok (.getfield 348, 3) := by decide +kernel
theorem dX11_finds_229 : decode cX11_finds 229 = .ok (.iload 5, 2) := by decide +kernel
theorem dX11_finds_231 : decode cX11_finds 231 = .ok (.iastore, 1) := by decide +kernel
theorem dX11_finds_232 : decode cX11_finds 232 = .ok (.aload_n 0, 1) := by decide +kernel
theorem dX11_finds_233 : decode cX11_finds 233 = .ok (.dup, 1) := by decide +kernel
theorem dX11_finds_234 : decode cX11_finds 234 = .ok (.getfield 348, 3) := by decide +kernel
theorem dX11_finds_237 : decode cX11_finds 237 = .ok (.iconst 1, 1) := by decide +kernel
theorem dX11_finds_238 : decode cX11_finds 238 = .ok (.iadd, 1) := by decide +kernel
theorem dX11_finds_239 : decode cX11_finds 239 = .ok (.putfield 348, 3) := by decide +kernel
theorem dX11_finds_242 : decode cX11_finds 242 = .ok (.iinc 4 1, 3) := by decide +kernel
theorem dX11_finds_245 : decode cX11_finds 245 = .ok (.goto (-168), 3) := by decide +kernel
theorem dX11_finds_248 : decode cX11_finds 248 = .ok (.iinc 3 1, 3) := by decide +kernel
theorem dX11_finds_251 : decode cX11_finds 251 = .ok (.goto (-192), 3) := by decide +kernel
theorem dX11_finds_254 : decode cX11_finds 254 = .ok (.iconst 0, 1) := by decide +kernel
theorem dX11_finds_255 : decode cX11_finds 255 = .ok (.istore_n 3, 1) := by decide +kernel
theorem dX11_finds_256 : decode cX11_finds 256 = .ok (.iload_n 3, 1) := by decide +kernel
theorem dX11_finds_257 : decode cX11_finds 257 = .ok (.iconst 1, 1) := by decide +kernel
theorem dX11_finds_258 : decode cX11_finds 258 = .ok (.aload_n 0, 1) := by decide +kernel
theorem dX11_finds_259 : decode cX11_finds 259 = .ok (.getfield 348, 3) := by decide +kernel
theorem dX11_finds_262 : decode cX11_finds 262 = .ok (.ishl, 1) := by decide +kernel
theorem dX11_finds_263 : decode cX11_finds 263 = .ok (.if_icmp .ge 111, 3) := by decide +kernel
theorem dX11_finds_266 : decode cX11_finds 266 = .ok (.aload_n 0, 1) := by decide +kernel
theorem dX11_finds_267 : decode cX11_finds 267 = .ok (.getfield 351, 3) := by decide +kernel
theorem dX11_finds_270 : decode cX11_finds 270 = .ok (.iconst (-1), 1) := by decide +kernel
theorem dX11_finds_271 : decode cX11_finds 271 = .ok (.if_icmp .eq 17, 3) := by decide +kernel
theorem dX11_finds_274 : decode cX11_finds 274 = .ok (.iload_n 3, 1) := by decide +kernel
theorem dX11_finds_275 : decode cX11_finds 275 = .ok (.invokestatic 360, 3) := by decide +kernel
theorem dX11_finds_278 : decode cX11_finds 278 = .ok (.aload_n 0, 1) := by decide +kernel
theorem dX11_finds_279 : decode cX11_finds 279 = .ok (.getfield 351, 3) := by decide +kernel
theorem dX11_finds_282 : decode cX11_finds 282 = .ok (.invokestatic 360, 3) := by decide +kernel
theorem dX11_finds_285 : decode cX11_finds 285 = .ok (.if_icmp .gt 83, 3) := by decide +kernel
theorem dX11_finds_288 : decode cX11_finds 288 = .ok (.aload_n 0, 1) := by decide +kernel
theorem dX11_finds_289 : decode cX11_finds 289 = .ok (.iload_n 3, 1) := by decide +kernel
theorem dX11_finds_290 : decode cX11_finds 290 = .ok (.invokevirtual 363, 3) := by decide +kernel
theorem dX11_finds_293 : decode cX11_finds 293 = .ok (.ifCond .ne 6, 3) := by decide +kernel
theorem dX11_finds_296 : decode cX11_finds 296 = .ok (.goto 72, 3) := by decide +kernel
theorem dX11_finds_299 : decode cX11_finds 299 = .ok (.aload_n 0, 1) := by decide +kernel
theorem dX11_finds_300 : decode cX11_finds 300 = .ok (.getfield 351, 3) := by decide +kernel
theorem dX11_finds_303 : decode cX11_finds 303 = .ok (.iconst (-1), 1) := by decide +kernel
theorem dX11_finds_304 : decode cX11_finds 304 = .ok (.if_icmp .eq 17, 3) := by decide +kernel
theorem dX11_finds_307 : decode cX11_finds 307 = .ok (.iload_n 3, 1) := by decide +kernel
theorem dX11_finds_308 : decode cX11_finds 308 = .ok (.invokestatic 360, 3) := by decide +kernel
theorem dX11_finds_311 : decode cX11_finds 311 = .ok (.aload_n 0, 1) := by decide +kernel
theorem dX11_finds_312 : decode cX11_finds 312 = .ok (.getfield 351, 3) := by decide +kernel
theorem dX11_finds_315 : decode cX11_finds 315 = .ok (.invokestatic 360, 3) := by decide +kernel
theorem dX11_finds_318 : decode cX11_finds 318 = .ok (.if_icmp .ge 16, 3) := by decide +kernel
theorem dX11_finds_321 : decode cX11_finds 321 = .ok (.aload_n 0, 1) := by decide +kernel
theorem dX11_finds_322 : decode cX11_finds 322 = .ok (.iload_n 3, 1) := by decide +kernel
theorem dX11_finds_323 : decode cX11_finds 323 = .ok (.putfield 351, 3) := by decide +kernel
theorem dX11_finds_326 : decode cX11_finds 326 = .ok (.aload_n 0, 1) := by decide +kernel
theorem dX11_finds_327 : decode cX11_finds 327 = .ok (.iconst 0, 1) := by decide +kernel
theorem dX11_finds_328 : decode cX11_finds 328 = .ok (.putfield 354, 3) := by decide +kernel
theorem dX11_finds_331 : decode cX11_finds 331 = .ok (.goto 37, 3) := by decide +kernel
theorem dX11_finds_334 : decode cX11_finds 334 = .ok (.aload_n 0, 1) := by decide +kernel
theorem dX11_finds_335 : decode cX11_finds 335 = .ok (.dup, 1) := by decide +kernel
theorem dX11_finds_336 : decode cX11_finds 336 = .ok (.getfield 354, 3) := by decide +kernel
theorem dX11_finds_339 : decode cX11_finds 339 = .ok (.iconst 1, 1) := by decide +kernel
theorem dX11_finds_340 : decode cX11_finds 340 = .ok (.iadd, 1) := by decide +kernel
theorem dX11_finds_341 : decode cX11_finds 341 = .ok (.putfield 354, 3) := by decide +kernel
theorem dX11_finds_344 : decode cX11_finds 344 = .ok (.iload_n 3, 1) := by decide +kernel
theorem dX11_finds_345 : decode cX11_finds 345 = .ok (.aload_n 0, 1) := by decide +kernel
theorem dX11_finds_346 : decode cX11_finds 346 = .ok (.getfield 351, 3) := by decide +kernel
theorem dX11_finds_349 : decode cX11_finds 349 = .ok (.ixor, 1) := by decide +kernel
theorem dX11_finds_350 : decode cX11_finds 350 = .ok (.istore 4, 2) := by decide +kernel
theorem dX11_finds_352 : decode cX11_finds 352 = .ok (.iload_n 3, 1) := by decide +kernel
theorem dX11_finds_353 : decode cX11_finds 353 = .ok (.iload 4, 2) := by decide +kernel
theorem dX11_finds_355 : decode cX11_finds 355 = .ok (.iand, 1) := by decide +kernel
theorem dX11_finds_356 : decode cX11_finds 356 = .ok (.iload 4, 2) := by decide +kernel
theorem dX11_finds_358 : decode cX11_finds 358 = .ok (.ineg, 1) := by decide +kernel
theorem dX11_finds_359 : decode cX11_finds 359 = .ok (.iand, 1) := by decide +kernel
theorem dX11_finds_360 : decode cX11_finds 360 = .ok (.ifCond .eq 8, 3) := by decide +kernel
theorem dX11_finds_363 : decode cX11_finds 363 = .ok (.aload_n 0, 1) := by decide +kernel
theorem dX11_finds_364 : decode cX11_finds 364 = .ok (.iload_n 3, 1) := by decide +kernel
theorem dX11_finds_365 : decode cX11_finds 365 = .ok (.putfield 351, 3) := by decide +kernel
theorem dX11_finds_368 : decode cX11_finds 368 = .ok (.iinc 3 1, 3) := by decide +kernel
theorem dX11_finds_371 : decode cX11_finds 371 = .ok (.goto (-115), 3) := by decide +kernel
theorem dX11_finds_374 : decode cX11_finds 374 = .ok (.aload_n 0, 1) := by decide +kernel
theorem dX11_finds_375 : decode cX11_finds 375 = .ok (.getfield 351, 3) := by decide +kernel
theorem dX11_finds_378 : decode cX11_finds 378 = .ok (.iconst (-1), 1) := by decide +kernel
theorem dX11_finds_379 : decode cX11_finds 379 = .ok (.if_icmp .eq 7, 3) := by decide +kernel
theorem dX11_finds_382 : decode cX11_finds 382 = .ok (.iconst 1, 1) := by decide +kernel
theorem dX11_finds_383 : decode cX11_finds 383 = .ok (.goto 4, 3) := by decide +kernel
theorem dX11_finds_386 : decode cX11_finds 386 = .ok (.iconst 0, 1) := by decide +kernel
theorem dX11_finds_387 : decode cX11_finds 387 = .ok (.ireturn, 1) := by decide +kernel
theorem dX11_explains_0 : decode cX11_explains 0 = .ok (.iconst 0, 1) := by decide +kernel
theorem dX11_explains_1 : decode cX11_explains 1 = .ok (.istore_n 2, 1) := by decide +kernel
theorem dX11_explains_2 : decode cX11_explains 2 = .ok (.iload_n 2, 1) := by decide +kernel
theorem dX11_explains_3 : decode cX11_explains 3 = .ok (.aload_n 0, 1) := by decide +kernel
theorem dX11_explains_4 : decode cX11_explains 4 = .ok (.getfield 334, 3) := by decide +kernel
theorem dX11_explains_7 : decode cX11_explains 7 = .ok (.if_icmp .ge 84, 3) := by decide +kernel
theorem dX11_explains_10 : decode cX11_explains 10 = .ok (.aload_n 0, 1) := by decide +kernel
theorem dX11_explains_11 : decode cX11_explains 11 = .ok (.getfield 124, 3) := by decide +kernel
theorem dX11_explains_14 : decode cX11_explains 14 = .ok (.iload_n 2, 1) := by decide +kernel
theorem dX11_explains_15 : decode cX11_explains 15 = .ok (.iaload, 1) := by decide +kernel
theorem dX11_explains_16 : decode cX11_explains 16 = .ok (.iconst 1, 1) := by decide +kernel
theorem dX11_explains_17 : decode cX11_explains 17 = .ok (.if_icmp .eq 7, 3) := by decide +kernel
theorem dX11_explains_20 : decode cX11_explains 20 = .ok (.iconst 1, 1) := by decide +kernel
theorem dX11_explains_21 : decode cX11_explains 21 = .ok (.goto 4, 3) := by decide +kernel
theorem dX11_explains_24 : decode cX11_explains 24 = .ok (.iconst 0, 1) := by decide +kernel
theorem dX11_explains_25 : decode cX11_explains 25 = .ok (.istore_n 3, 1) := by decide +kernel
theorem dX11_explains_26 : decode cX11_explains 26 = .ok (.iconst 0, 1) := by decide +kernel
theorem dX11_explains_27 : decode cX11_explains 27 = .ok (.istore 4, 2) := by decide +kernel
theorem dX11_explains_29 : decode cX11_explains 29 = .ok (.iload 4, 2) := by decide +kernel
theorem dX11_explains_31 : decode cX11_explains 31 = .ok (.aload_n 0, 1) := by decide +kernel
theorem dX11_explains_32 : decode cX11_explains 32 = .ok (.getfield 348, 3) := by decide +kernel
theorem dX11_explains_35 : decode cX11_explains 35 = .ok (.if_icmp .ge 44, 3) := by decide +kernel
theorem dX11_explains_38 : decode cX11_explains 38 = .ok (.iload_n 3, 1) := by decide +kernel
theorem dX11_explains_39 : decode cX11_explains 39 = .ok (.ifCond .ne 40, 3) := by decide +kernel
theorem dX11_explains_42 : decode cX11_explains 42 = .ok (.iload_n 1, 1) := by decide +kernel
theorem dX11_explains_43 : decode cX11_explains 43 = .ok (.iload 4, 2) := by decide +kernel
theorem dX11_explains_45 : decode cX11_explains 45 = .ok (.ishr, 1) := by decide +kernel
theorem dX11_explains_46 : decode cX11_explains 46 = .ok (.iconst 1, 1) := by decide +kernel
theorem dX11_explains_47 : decode cX11_explains 47 = .ok (.iand, 1) := by decide +kernel
theorem dX11_explains_48 : decode cX11_explains 48 = .ok (.iconst 1, 1) := by decide +kernel
theorem dX11_explains_49 : decode cX11_explains 49 = .ok (.if_icmp .ne 22, 3) := by decide +kernel
theorem dX11_explains_52 : decode cX11_explains 52 = .ok (.aload_n 0, 1) := by decide +kernel
theorem dX11_explains_53 : decode cX11_explains 53 = .ok (.iload_n 2, 1) := by decide +kernel
theorem dX11_explains_54 : decode cX11_explains 54 = .ok (.aload_n 0, 1) := by decide +kernel
theorem dX11_explains_55 : decode cX11_explains 55 = .ok (.getfield 127, 3) := by decide +kernel
theorem dX11_explains_58 : decode cX11_explains 58 = .ok (.iload 4, 2) := by decide +kernel
theorem dX11_explains_60 : decode cX11_explains 60 = .ok (.iaload, 1) := by decide +kernel
theorem dX11_explains_61 : decode cX11_explains 61 = .ok (.invokevirtual 357, 3) := by decide +kernel
theorem dX11_explains_64 : decode cX11_explains 64 = .ok (.ifCond .eq 7, 3) := by decide +kernel
theorem dX11_explains_67 : decode cX11_explains 67 = .ok (.iconst 1, 1) := by decide +kernel
theorem dX11_explains_68 : decode cX11_explains 68 = .ok (.goto 4, 3) := by decide +kernel
theorem dX11_explains_71 : decode cX11_explains 71 = .ok (.iconst 0, 1) := by decide +kernel
theorem dX11_explains_72 : decode cX11_explains 72 = .ok (.istore_n 3, 1) := by decide +kernel
theorem dX11_explains_73 : decode cX11_explains 73 = .ok (.iinc 4 1, 3) := by decide +kernel
theorem dX11_explains_76 : decode cX11_explains 76 = .ok (.goto (-47), 3) := by decide +kernel
theorem dX11_explains_79 : decode cX11_explains 79 = .ok (.iload_n 3, 1) := by decide +kernel
theorem dX11_explains_80 : decode cX11_explains 80 = .ok (.ifCond .ne 5, 3) := by decide +kernel
theorem dX11_explains_83 : decode cX11_explains 83 = .ok (.iconst 0, 1) := by decide +kernel
theorem dX11_explains_84 : decode cX11_explains 84 = .ok (.ireturn, 1) := by decide +kernel
theorem dX11_explains_85 : decode cX11_explains 85 = .ok (.iinc 2 1, 3) := by decide +kernel
theorem dX11_explains_88 : decode cX11_explains 88 = .ok (.goto (-86), 3) := by decide +kernel
theorem dX11_explains_91 : decode cX11_explains 91 = .ok (.iconst 1, 1) := by decide +kernel
theorem dX11_explains_92 : decode cX11_explains 92 = .ok (.ireturn, 1) := by decide +kernel
theorem dX11_suspects_0 : decode cX11_suspects 0 = .ok (.aload_n 0, 1) := by decide +kernel
theorem dX11_suspects_1 : decode cX11_suspects 1 = .ok (.iload_n 1, 1) := by decide +kernel
theorem dX11_suspects_2 : decode cX11_suspects 2 = .ok (.invokevirtual 221, 3) := by decide +kernel
theorem dX11_suspects_5 : decode cX11_suspects 5 = .ok (.ifCond .eq 28, 3) := by decide +kernel
theorem dX11_suspects_8 : decode cX11_suspects 8 = .ok (.iload_n 2, 1) := by decide +kernel
theorem dX11_suspects_9 : decode cX11_suspects 9 = .ok (.i2l, 1) := by decide +kernel
theorem dX11_suspects_10 : decode cX11_suspects 10 = .ok (.lconst 0, 1) := by decide +kernel
theorem dX11_suspects_11 : decode cX11_suspects 11 = .ok (.ldc2_w 343, 3) := by decide +kernel
theorem dX11_suspects_14 : decode cX11_suspects 14 = .ok (.invokestatic 139, 3) := by decide +kernel
theorem dX11_suspects_17 : decode cX11_suspects 17 = .ok (.ifCond .eq 16, 3) := by decide +kernel
theorem dX11_suspects_20 : decode cX11_suspects 20 = .ok (.iload_n 3, 1) := by decide +kernel
theorem dX11_suspects_21 : decode cX11_suspects 21 = .ok (.ifCond .lt 12, 3) := by decide +kernel
theorem dX11_suspects_24 : decode cX11_suspects 24 = .ok (.aload_n 0, 1) := by decide +kernel
theorem dX11_suspects_25 : decode cX11_suspects 25 = .ok (.iload_n 1, 1) := by decide +kernel
theorem dX11_suspects_26 : decode cX11_suspects 26 = .ok (.iload_n 2, 1) := by decide +kernel
theorem dX11_suspects_27 : decode cX11_suspects 27 = .ok (.invokevirtual 366, 3) := by decide +kernel
theorem dX11_suspects_30 : decode cX11_suspects 30 = .ok (.ifCond .ne 5, 3) := by decide +kernel
theorem dX11_suspects_33 : decode cX11_suspects 33 = .ok (.iconst (-1), 1) := by decide +kernel
theorem dX11_suspects_34 : decode cX11_suspects 34 = .ok (.ireturn, 1) := by decide +kernel
theorem dX11_suspects_35 : decode cX11_suspects 35 = .ok (.iload_n 3, 1) := by decide +kernel
theorem dX11_suspects_36 : decode cX11_suspects 36 = .ok (.iconst 2, 1) := by decide +kernel
theorem dX11_suspects_37 : decode cX11_suspects 37 = .ok (.if_icmp .ge 22, 3) := by decide +kernel
theorem dX11_suspects_40 : decode cX11_suspects 40 = .ok (.iload_n 3, 1) := by decide +kernel
theorem dX11_suspects_41 : decode cX11_suspects 41 = .ok (.ifCond .ne 13, 3) := by decide +kernel
theorem dX11_suspects_44 : decode cX11_suspects 44 = .ok (.aload_n 0, 1) := by decide +kernel
theorem dX11_suspects_45 : decode cX11_suspects 45 = .ok (.getfield 351, 3) := by decide +kernel
theorem dX11_suspects_48 : decode cX11_suspects 48 = .ok (.invokestatic 360, 3) := by decide +kernel
theorem dX11_suspects_51 : decode cX11_suspects 51 = .ok (.goto 7, 3) := by decide +kernel
theorem dX11_suspects_54 : decode cX11_suspects 54 = .ok (.aload_n 0, 1) := by decide +kernel
theorem dX11_suspects_55 : decode cX11_suspects 55 = .ok (.getfield 354, 3) := by decide +kernel
theorem dX11_suspects_58 : decode cX11_suspects 58 = .ok (.ireturn, 1) := by decide +kernel
theorem dX11_suspects_59 : decode cX11_suspects 59 = .ok (.iload_n 3, 1) := by decide +kernel
theorem dX11_suspects_60 : decode cX11_suspects 60 = .ok (.iconst 2, 1) := by decide +kernel
theorem dX11_suspects_61 : decode cX11_suspects 61 = .ok (.isub, 1) := by decide +kernel
theorem dX11_suspects_62 : decode cX11_suspects 62 = .ok (.istore 4, 2) := by decide +kernel
theorem dX11_suspects_64 : decode cX11_suspects 64 = .ok (.iconst 0, 1) := by decide +kernel
theorem dX11_suspects_65 : decode cX11_suspects 65 = .ok (.istore 5, 2) := by decide +kernel
theorem dX11_suspects_67 : decode cX11_suspects 67 = .ok (.iload 5, 2) := by decide +kernel
theorem dX11_suspects_69 : decode cX11_suspects 69 = .ok (.aload_n 0, 1) := by decide +kernel
theorem dX11_suspects_70 : decode cX11_suspects 70 = .ok (.getfield 348, 3) := by decide +kernel
theorem dX11_suspects_73 : decode cX11_suspects 73 = .ok (.if_icmp .ge 40, 3) := by decide +kernel
theorem dX11_suspects_76 : decode cX11_suspects 76 = .ok (.aload_n 0, 1) := by decide +kernel
theorem dX11_suspects_77 : decode cX11_suspects 77 = .ok (.getfield 351, 3) := by decide +kernel
theorem dX11_suspects_80 : decode cX11_suspects 80 = .ok (.iload 5, 2) := by decide +kernel
theorem dX11_suspects_82 : decode cX11_suspects 82 = .ok (.ishr, 1) := by decide +kernel
theorem dX11_suspects_83 : decode cX11_suspects 83 = .ok (.iconst 1, 1) := by decide +kernel
theorem dX11_suspects_84 : decode cX11_suspects 84 = .ok (.iand, 1) := by decide +kernel
theorem dX11_suspects_85 : decode cX11_suspects 85 = .ok (.ifCond .ne 6, 3) := by decide +kernel
theorem dX11_suspects_88 : decode cX11_suspects 88 = .ok (.goto 19, 3) := by decide +kernel
theorem dX11_suspects_91 : decode cX11_suspects 91 = .ok (.iload 4, 2) := by decide +kernel
theorem dX11_suspects_93 : decode cX11_suspects 93 = .ok (.ifCond .ne 11, 3) := by decide +kernel
theorem dX11_suspects_96 : decode cX11_suspects 96 = .ok (.aload_n 0, 1) := by decide +kernel
theorem dX11_suspects_97 : decode cX11_suspects 97 = .ok (.getfield 127, 3) := by decide +kernel
theorem dX11_suspects_100 : decode cX11_suspects 100 = .ok (.iload 5, 2) := by decide +kernel
theorem dX11_suspects_102 : decode cX11_suspects 102 = .ok (.iaload, 1) := by decide +kernel
theorem dX11_suspects_103 : decode cX11_suspects 103 = .ok (.ireturn, 1) := by decide +kernel
theorem dX11_suspects_104 : decode cX11_suspects 104 = .ok (.iinc 4 (-1), 3) := by decide +kernel
theorem dX11_suspects_107 : decode cX11_suspects 107 = .ok (.iinc 5 1, 3) := by decide +kernel
theorem dX11_suspects_110 : decode cX11_suspects 110 = .ok (.goto (-43), 3) := by decide +kernel
theorem dX11_suspects_113 : decode cX11_suspects 113 = .ok (.iconst (-1), 1) := by decide +kernel
theorem dX11_suspects_114 : decode cX11_suspects 114 = .ok (.ireturn, 1) := by decide +kernel
theorem dX11_count_0 : decode cX11_count 0 = .ok (.iload_n 1, 1) := by decide +kernel
theorem dX11_count_1 : decode cX11_count 1 = .ok (.tableswitch 87 0 7 #[47, 52, 57, 62, 67, 72, 77, 82], 47) := by decide +kernel
theorem dX11_count_48 : decode cX11_count 48 = .ok (.aload_n 0, 1) := by decide +kernel
theorem dX11_count_49 : decode cX11_count 49 = .ok (.getfield 268, 3) := by decide +kernel
theorem dX11_count_52 : decode cX11_count 52 = .ok (.ireturn, 1) := by decide +kernel
theorem dX11_count_53 : decode cX11_count 53 = .ok (.aload_n 0, 1) := by decide +kernel
theorem dX11_count_54 : decode cX11_count 54 = .ok (.getfield 186, 3) := by decide +kernel
theorem dX11_count_57 : decode cX11_count 57 = .ok (.ireturn, 1) := by decide +kernel
theorem dX11_count_58 : decode cX11_count 58 = .ok (.aload_n 0, 1) := by decide +kernel
theorem dX11_count_59 : decode cX11_count 59 = .ok (.getfield 211, 3) := by decide +kernel
theorem dX11_count_62 : decode cX11_count 62 = .ok (.ireturn, 1) := by decide +kernel
theorem dX11_count_63 : decode cX11_count 63 = .ok (.aload_n 0, 1) := by decide +kernel
theorem dX11_count_64 : decode cX11_count 64 = .ok (.getfield 249, 3) := by decide +kernel
theorem dX11_count_67 : decode cX11_count 67 = .ok (.ireturn, 1) := by decide +kernel
theorem dX11_count_68 : decode cX11_count 68 = .ok (.aload_n 0, 1) := by decide +kernel
theorem dX11_count_69 : decode cX11_count 69 = .ok (.getfield 334, 3) := by decide +kernel
theorem dX11_count_72 : decode cX11_count 72 = .ok (.ireturn, 1) := by decide +kernel
theorem dX11_count_73 : decode cX11_count 73 = .ok (.aload_n 0, 1) := by decide +kernel
theorem dX11_count_74 : decode cX11_count 74 = .ok (.getfield 321, 3) := by decide +kernel
theorem dX11_count_77 : decode cX11_count 77 = .ok (.ireturn, 1) := by decide +kernel
theorem dX11_count_78 : decode cX11_count 78 = .ok (.aload_n 0, 1) := by decide +kernel
theorem dX11_count_79 : decode cX11_count 79 = .ok (.getfield 136, 3) := by decide +kernel
theorem dX11_count_82 : decode cX11_count 82 = .ok (.ireturn, 1) := by decide +kernel
theorem dX11_count_83 : decode cX11_count 83 = .ok (.aload_n 0, 1) := by decide +kernel
theorem dX11_count_84 : decode cX11_count 84 = .ok (.getfield 65, 3) := by decide +kernel
theorem dX11_count_87 : decode cX11_count 87 = .ok (.ireturn, 1) := by decide +kernel
theorem dX11_count_88 : decode cX11_count 88 = .ok (.iconst (-1), 1) := by decide +kernel
theorem dX11_count_89 : decode cX11_count 89 = .ok (.ireturn, 1) := by decide +kernel
end
section
theorem dL_law_0 : decode cL_law 0 = .ok (.new 7, 3) := by decide +kernel
theorem dL_law_3 : decode cL_law 3 = .ok (.dup, 1) := by decide +kernel
theorem dL_law_4 : decode cL_law 4 = .ok (.invokespecial 9, 3) := by decide +kernel
theorem dL_law_7 : decode cL_law 7 = .ok (.astore_n 1, 1) := by decide +kernel
theorem dL_law_8 : decode cL_law 8 = .ok (.new 10, 3) := by decide +kernel
theorem dL_law_11 : decode cL_law 11 = .ok (.dup, 1) := by decide +kernel
theorem dL_law_12 : decode cL_law 12 = .ok (.invokespecial 12, 3) := by decide +kernel
theorem dL_law_15 : decode cL_law 15 = .ok (.astore_n 2, 1) := by decide +kernel
theorem dL_law_16 : decode cL_law 16 = .ok (.iconst 0, 1) := by decide +kernel
theorem dL_law_17 : decode cL_law 17 = .ok (.istore_n 3, 1) := by decide +kernel
theorem dL_law_18 : decode cL_law 18 = .ok (.iload_n 3, 1) := by decide +kernel
theorem dL_law_19 : decode cL_law 19 = .ok (.aload_n 0, 1) := by decide +kernel
theorem dL_law_20 : decode cL_law 20 = .ok (.arraylength, 1) := by decide +kernel
theorem dL_law_21 : decode cL_law 21 = .ok (.bipush 7, 2) := by decide +kernel
theorem dL_law_23 : decode cL_law 23 = .ok (.isub, 1) := by decide +kernel
theorem dL_law_24 : decode cL_law 24 = .ok (.if_icmp .gt 1126, 3) := by decide +kernel
theorem dL_law_27 : decode cL_law 27 = .ok (.aload_n 0, 1) := by decide +kernel
theorem dL_law_28 : decode cL_law 28 = .ok (.iload_n 3, 1) := by decide +kernel
theorem dL_law_29 : decode cL_law 29 = .ok (.iaload, 1) := by decide +kernel
theorem dL_law_30 : decode cL_law 30 = .ok (.bipush 31, 2) := by decide +kernel
theorem dL_law_32 : decode cL_law 32 = .ok (.iand, 1) := by decide +kernel
theorem dL_law_33 : decode cL_law 33 = .ok (.tableswitch 1111 0 25 #[119, 182, 205, 218, 231, 264, 327, 370, 445, 478, 511, 544, 593, 636, 679, 702, 715, 758, 811, 870, 893, 946, 979, 1022, 1045, 1088], 119) := by decide +kernel
theorem dL_law_152 : decode cL_law 152 = .ok (.aload_n 1, 1) := by decide +kernel
theorem dL_law_153 : decode cL_law 153 = .ok (.aload_n 0, 1) := by decide +kernel
theorem dL_law_154 : decode cL_law 154 = .ok (.iload_n 3, 1) := by decide +kernel
theorem dL_law_155 : decode cL_law 155 = .ok (.iconst 1, 1) := by decide +kernel
theorem dL_law_156 : decode cL_law 156 = .ok (.iadd, 1) := by decide +kernel
theorem dL_law_157 : decode cL_law 157 = .ok (.iaload, 1) := by decide +kernel
theorem dL_law_158 : decode cL_law 158 = .ok (.aload_n 0, 1) := by decide +kernel
theorem dL_law_159 : decode cL_law 159 = .ok (.iload_n 3, 1) := by decide +kernel
theorem dL_law_160 : decode cL_law 160 = .ok (.iconst 2, 1) := by decide +kernel
theorem dL_law_161 : decode cL_law 161 = .ok (.iadd, 1) := by decide +kernel
theorem dL_law_162 : decode cL_law 162 = .ok (.iaload, 1) := by decide +kernel
theorem dL_law_163 : decode cL_law 163 = .ok (.aload_n 0, 1) := by decide +kernel
theorem dL_law_164 : decode cL_law 164 = .ok (.iload_n 3, 1) := by decide +kernel
theorem dL_law_165 : decode cL_law 165 = .ok (.iconst 3, 1) := by decide +kernel
theorem dL_law_166 : decode cL_law 166 = .ok (.iadd, 1) := by decide +kernel
theorem dL_law_167 : decode cL_law 167 = .ok (.iaload, 1) := by decide +kernel
theorem dL_law_168 : decode cL_law 168 = .ok (.aload_n 0, 1) := by decide +kernel
theorem dL_law_169 : decode cL_law 169 = .ok (.iload_n 3, 1) := by decide +kernel
theorem dL_law_170 : decode cL_law 170 = .ok (.iconst 4, 1) := by decide +kernel
theorem dL_law_171 : decode cL_law 171 = .ok (.iadd, 1) := by decide +kernel
theorem dL_law_172 : decode cL_law 172 = .ok (.iaload, 1) := by decide +kernel
theorem dL_law_173 : decode cL_law 173 = .ok (.aload_n 0, 1) := by decide +kernel
theorem dL_law_174 : decode cL_law 174 = .ok (.iload_n 3, 1) := by decide +kernel
theorem dL_law_175 : decode cL_law 175 = .ok (.iconst 5, 1) := by decide +kernel
theorem dL_law_176 : decode cL_law 176 = .ok (.iadd, 1) := by decide +kernel
theorem dL_law_177 : decode cL_law 177 = .ok (.iaload, 1) := by decide +kernel
theorem dL_law_178 : decode cL_law 178 = .ok (.invokevirtual 13, 3) := by decide +kernel
theorem dL_law_181 : decode cL_law 181 = .ok (.aload_n 2, 1) := by decide +kernel
theorem dL_law_182 : decode cL_law 182 = .ok (.aload_n 0, 1) := by decide +kernel
theorem dL_law_183 : decode cL_law 183 = .ok (.iload_n 3, 1) := by decide +kernel
theorem dL_law_184 : decode cL_law 184 = .ok (.iconst 1, 1) := by decide +kernel
theorem dL_law_185 : decode cL_law 185 = .ok (.iadd, 1) := by decide +kernel
theorem dL_law_186 : decode cL_law 186 = .ok (.iaload, 1) := by decide +kernel
theorem dL_law_187 : decode cL_law 187 = .ok (.aload_n 0, 1) := by decide +kernel
theorem dL_law_188 : decode cL_law 188 = .ok (.iload_n 3, 1) := by decide +kernel
theorem dL_law_189 : decode cL_law 189 = .ok (.iconst 2, 1) := by decide +kernel
theorem dL_law_190 : decode cL_law 190 = .ok (.iadd, 1) := by decide +kernel
theorem dL_law_191 : decode cL_law 191 = .ok (.iaload, 1) := by decide +kernel
theorem dL_law_192 : decode cL_law 192 = .ok (.aload_n 0, 1) := by decide +kernel
theorem dL_law_193 : decode cL_law 193 = .ok (.iload_n 3, 1) := by decide +kernel
theorem dL_law_194 : decode cL_law 194 = .ok (.iconst 3, 1) := by decide +kernel
theorem dL_law_195 : decode cL_law 195 = .ok (.iadd, 1) := by decide +kernel
theorem dL_law_196 : decode cL_law 196 = .ok (.iaload, 1) := by decide +kernel
theorem dL_law_197 : decode cL_law 197 = .ok (.aload_n 0, 1) := by decide +kernel
theorem dL_law_198 : decode cL_law 198 = .ok (.iload_n 3, 1) := by decide +kernel
theorem dL_law_199 : decode cL_law 199 = .ok (.iconst 4, 1) := by decide +kernel
theorem dL_law_200 : decode cL_law 200 = .ok (.iadd, 1) := by decide +kernel
theorem dL_law_201 : decode cL_law 201 = .ok (.iaload, 1) := by decide +kernel
theorem dL_law_202 : decode cL_law 202 = .ok (.aload_n 0, 1) := by decide +kernel
theorem dL_law_203 : decode cL_law 203 = .ok (.iload_n 3, 1) := by decide +kernel
theorem dL_law_204 : decode cL_law 204 = .ok (.iconst 5, 1) := by decide +kernel
theorem dL_law_205 : decode cL_law 205 = .ok (.iadd, 1) := by decide +kernel
theorem dL_law_206 : decode cL_law 206 = .ok (.iaload, 1) := by decide +kernel
theorem dL_law_207 : decode cL_law 207 = .ok (.invokevirtual 17, 3) := by decide +kernel
theorem dL_law_210 : decode cL_law 210 = .ok (.if_icmp .eq 934, 3) := by decide +kernel
theorem dL_law_213 : decode cL_law 213 = .ok (.iconst 0, 1) := by decide +kernel
theorem dL_law_214 : decode cL_law 214 = .ok (.ireturn, 1) := by decide +kernel
theorem dL_law_215 : decode cL_law 215 = .ok (.aload_n 1, 1) := by decide +kernel
theorem dL_law_216 : decode cL_law 216 = .ok (.aload_n 0, 1) := by decide +kernel
theorem dL_law_217 : decode cL_law 217 = .ok (.iload_n 3, 1) := by decide +kernel
theorem dL_law_218 : decode cL_law 218 = .ok (.iconst 1, 1) := by decide +kernel
theorem dL_law_219 : decode cL_law 219 = .ok (.iadd, 1) := by decide +kernel
theorem dL_law_220 : decode cL_law 220 = .ok (.iaload, 1) := by decide +kernel
theorem dL_law_221 : decode cL_law 221 = .ok (.invokevirtual 18, 3) := by decide +kernel
theorem dL_law_224 : decode cL_law 224 = .ok (.aload_n 2, 1) := by decide +kernel
theorem dL_law_225 : decode cL_law 225 = .ok (.aload_n 0, 1) := by decide +kernel
theorem dL_law_226 : decode cL_law 226 = .ok (.iload_n 3, 1) := by decide +kernel
theorem dL_law_227 : decode cL_law 227 = .ok (.iconst 1, 1) := by decide +kernel
theorem dL_law_228 : decode cL_law 228 = .ok (.iadd, 1) := by decide +kernel
theorem dL_law_229 : decode cL_law 229 = .ok (.iaload, 1) := by decide +kernel
theorem dL_law_230 : decode cL_law 230 = .ok (.invokevirtual 22, 3) := by decide +kernel
theorem dL_law_233 : decode cL_law 233 = .ok (.if_icmp .eq 911, 3) := by decide +kernel
theorem dL_law_236 : decode cL_law 236 = .ok (.iconst 0, 1) := by decide +kernel
theorem dL_law_237 : decode cL_law 237 = .ok (.ireturn, 1) := by decide +kernel
theorem dL_law_238 : decode cL_law 238 = .ok (.aload_n 1, 1) := by decide +kernel
theorem dL_law_239 : decode cL_law 239 = .ok (.invokevirtual 23, 3) := by decide +kernel
theorem dL_law_242 : decode cL_law 242 = .ok (.aload_n 2, 1) := by decide +kernel
theorem dL_law_243 : decode cL_law 243 = .ok (.invokevirtual 27, 3) := by decide +kernel
theorem dL_law_246 : decode cL_law 246 = .ok (.if_icmp .eq 898, 3) := by decide +kernel
theorem dL_law_249 : decode cL_law 249 = .ok (.iconst 0, 1) := by decide +kernel
theorem dL_law_250 : decode cL_law 250 = .ok (.ireturn, 1) := by decide +kernel
theorem dL_law_251 : decode cL_law 251 = .ok (.aload_n 1, 1) := by decide +kernel
theorem dL_law_252 : decode cL_law 252 = .ok (.invokevirtual 28, 3) := by decide +kernel
theorem dL_law_255 : decode cL_law 255 = .ok (.aload_n 2, 1) := by decide +kernel
theorem dL_law_256 : decode cL_law 256 = .ok (.invokevirtual 31, 3) := by decide +kernel
theorem dL_law_259 : decode cL_law 259 = .ok (.if_icmp .eq 885, 3) := by decide +kernel
theorem dL_law_262 : decode cL_law 262 = .ok (.iconst 0, 1) := by decide +kernel
theorem dL_law_263 : decode cL_law 263 = .ok (.ireturn, 1) := by decide +kernel
theorem dL_law_264 : decode cL_law 264 = .ok (.aload_n 1, 1) := by decide +kernel
theorem dL_law_265 : decode cL_law 265 = .ok (.aload_n 0, 1) := by decide +kernel
theorem dL_law_266 : decode cL_law 266 = .ok (.iload_n 3, 1) := by decide +kernel
theorem dL_law_267 : decode cL_law 267 = .ok (.iconst 1, 1) := by decide +kernel
theorem dL_law_268 : decode cL_law 268 = .ok (.iadd, 1) := by decide +kernel
theorem dL_law_269 : decode cL_law 269 = .ok (.iaload, 1) := by decide +kernel
theorem dL_law_270 : decode cL_law 270 = .ok (.aload_n 0, 1) := by decide +kernel
theorem dL_law_271 : decode cL_law 271 = .ok (.iload_n 3, 1) := by decide +kernel
theorem dL_law_272 : decode cL_law 272 = .ok (.iconst 2, 1) := by decide +kernel
theorem dL_law_273 : decode cL_law 273 = .ok (.iadd, 1) := by decide +kernel
theorem dL_law_274 : decode cL_law 274 = .ok (.iaload, 1) := by decide +kernel
theorem dL_law_275 : decode cL_law 275 = .ok (.invokevirtual 32, 3) := by decide +kernel
theorem dL_law_278 : decode cL_law 278 = .ok (.aload_n 2, 1) := by decide +kernel
theorem dL_law_279 : decode cL_law 279 = .ok (.aload_n 0, 1) := by decide +kernel
theorem dL_law_280 : decode cL_law 280 = .ok (.iload_n 3, 1) := by decide +kernel
theorem dL_law_281 : decode cL_law 281 = .ok (.iconst 1, 1) := by decide +kernel
theorem dL_law_282 : decode cL_law 282 = .ok (.iadd, 1) := by decide +kernel
theorem dL_law_283 : decode cL_law 283 = .ok (.iaload, 1) := by decide +kernel
theorem dL_law_284 : decode cL_law 284 = .ok (.aload_n 0, 1) := by decide +kernel
theorem dL_law_285 : decode cL_law 285 = .ok (.iload_n 3, 1) := by decide +kernel
theorem dL_law_286 : decode cL_law 286 = .ok (.iconst 2, 1) := by decide +kernel
theorem dL_law_287 : decode cL_law 287 = .ok (.iadd, 1) := by decide +kernel
theorem dL_law_288 : decode cL_law 288 = .ok (.iaload, 1) := by decide +kernel
theorem dL_law_289 : decode cL_law 289 = .ok (.invokevirtual 36, 3) := by decide +kernel
theorem dL_law_292 : decode cL_law 292 = .ok (.if_icmp .eq 852, 3) := by decide +kernel
theorem dL_law_295 : decode cL_law 295 = .ok (.iconst 0, 1) := by decide +kernel
theorem dL_law_296 : decode cL_law 296 = .ok (.ireturn, 1) := by decide +kernel
theorem dL_law_297 : decode cL_law 297 = .ok (.aload_n 1, 1) := by decide +kernel
theorem dL_law_298 : decode cL_law 298 = .ok (.aload_n 0, 1) := by decide +kernel
theorem dL_law_299 : decode cL_law 299 = .ok (.iload_n 3, 1) := by decide +kernel
theorem dL_law_300 : decode cL_law 300 = .ok (.iconst 1, 1) := by decide +kernel
theorem dL_law_301 : decode cL_law 301 = .ok (.iadd, 1) := by decide +kernel
theorem dL_law_302 : decode cL_law 302 = .ok (.iaload, 1) := by decide +kernel
theorem dL_law_303 : decode cL_law 303 = .ok (.aload_n 0, 1) := by decide +kernel
theorem dL_law_304 : decode cL_law 304 = .ok (.iload_n 3, 1) := by decide +kernel
theorem dL_law_305 : decode cL_law 305 = .ok (.iconst 2, 1) := by decide +kernel
theorem dL_law_306 : decode cL_law 306 = .ok (.iadd, 1) := by decide +kernel
theorem dL_law_307 : decode cL_law 307 = .ok (.iaload, 1) := by decide +kernel
theorem dL_law_308 : decode cL_law 308 = .ok (.aload_n 0, 1) := by decide +kernel
theorem dL_law_309 : decode cL_law 309 = .ok (.iload_n 3, 1) := by decide +kernel
theorem dL_law_310 : decode cL_law 310 = .ok (.iconst 3, 1) := by decide +kernel
theorem dL_law_311 : decode cL_law 311 = .ok (.iadd, 1) := by decide +kernel
theorem dL_law_312 : decode cL_law 312 = .ok (.iaload, 1) := by decide +kernel
theorem dL_law_313 : decode cL_law 313 = .ok (.aload_n 0, 1) := by decide +kernel
theorem dL_law_314 : decode cL_law 314 = .ok (.iload_n 3, 1) := by decide +kernel
theorem dL_law_315 : decode cL_law 315 = .ok (.iconst 4, 1) := by decide +kernel
theorem dL_law_316 : decode cL_law 316 = .ok (.iadd, 1) := by decide +kernel
theorem dL_law_317 : decode cL_law 317 = .ok (.iaload, 1) := by decide +kernel
theorem dL_law_318 : decode cL_law 318 = .ok (.aload_n 0, 1) := by decide +kernel
theorem dL_law_319 : decode cL_law 319 = .ok (.iload_n 3, 1) := by decide +kernel
theorem dL_law_320 : decode cL_law 320 = .ok (.iconst 5, 1) := by decide +kernel
theorem dL_law_321 : decode cL_law 321 = .ok (.iadd, 1) := by decide +kernel
theorem dL_law_322 : decode cL_law 322 = .ok (.iaload, 1) := by decide +kernel
theorem dL_law_323 : decode cL_law 323 = .ok (.invokevirtual 37, 3) := by decide +kernel
theorem dL_law_326 : decode cL_law 326 = .ok (.aload_n 2, 1) := by decide +kernel
theorem dL_law_327 : decode cL_law 327 = .ok (.aload_n 0, 1) := by decide +kernel
theorem dL_law_328 : decode cL_law 328 = .ok (.iload_n 3, 1) := by decide +kernel
theorem dL_law_329 : decode cL_law 329 = .ok (.iconst 1, 1) := by decide +kernel
theorem dL_law_330 : decode cL_law 330 = .ok (.iadd, 1) := by decide +kernel
theorem dL_law_331 : decode cL_law 331 = .ok (.iaload, 1) := by decide +kernel
theorem dL_law_332 : decode cL_law 332 = .ok (.aload_n 0, 1) := by decide +kernel
theorem dL_law_333 : decode cL_law 333 = .ok (.iload_n 3, 1) := by decide +kernel
theorem dL_law_334 : decode cL_law 334 = .ok (.iconst 2, 1) := by decide +kernel
theorem dL_law_335 : decode cL_law 335 = .ok (.iadd, 1) := by decide +kernel
theorem dL_law_336 : decode cL_law 336 = .ok (.iaload, 1) := by decide +kernel
theorem dL_law_337 : decode cL_law 337 = .ok (.aload_n 0, 1) := by decide +kernel
theorem dL_law_338 : decode cL_law 338 = .ok (.iload_n 3, 1) := by decide +kernel
theorem dL_law_339 : decode cL_law 339 = .ok (.iconst 3, 1) := by decide +kernel
theorem dL_law_340 : decode cL_law 340 = .ok (.iadd, 1) := by decide +kernel
theorem dL_law_341 : decode cL_law 341 = .ok (.iaload, 1) := by decide +kernel
theorem dL_law_342 : decode cL_law 342 = .ok (.aload_n 0, 1) := by decide +kernel
theorem dL_law_343 : decode cL_law 343 = .ok (.iload_n 3, 1) := by decide +kernel
theorem dL_law_344 : decode cL_law 344 = .ok (.iconst 4, 1) := by decide +kernel
theorem dL_law_345 : decode cL_law 345 = .ok (.iadd, 1) := by decide +kernel
theorem dL_law_346 : decode cL_law 346 = .ok (.iaload, 1) := by decide +kernel
theorem dL_law_347 : decode cL_law 347 = .ok (.aload_n 0, 1) := by decide +kernel
theorem dL_law_348 : decode cL_law 348 = .ok (.iload_n 3, 1) := by decide +kernel
theorem dL_law_349 : decode cL_law 349 = .ok (.iconst 5, 1) := by decide +kernel
theorem dL_law_350 : decode cL_law 350 = .ok (.iadd, 1) := by decide +kernel
theorem dL_law_351 : decode cL_law 351 = .ok (.iaload, 1) := by decide +kernel
theorem dL_law_352 : decode cL_law 352 = .ok (.invokevirtual 40, 3) := by decide +kernel
theorem dL_law_355 : decode cL_law 355 = .ok (.if_icmp .eq 789, 3) := by decide +kernel
theorem dL_law_358 : decode cL_law 358 = .ok (.iconst 0, 1) := by decide +kernel
theorem dL_law_359 : decode cL_law 359 = .ok (.ireturn, 1) := by decide +kernel
theorem dL_law_360 : decode cL_law 360 = .ok (.aload_n 1, 1) := by decide +kernel
theorem dL_law_361 : decode cL_law 361 = .ok (.aload_n 0, 1) := by decide +kernel
theorem dL_law_362 : decode cL_law 362 = .ok (.iload_n 3, 1) := by decide +kernel
theorem dL_law_363 : decode cL_law 363 = .ok (.iconst 1, 1) := by decide +kernel
theorem dL_law_364 : decode cL_law 364 = .ok (.iadd, 1) := by decide +kernel
theorem dL_law_365 : decode cL_law 365 = .ok (.iaload, 1) := by decide +kernel
theorem dL_law_366 : decode cL_law 366 = .ok (.aload_n 0, 1) := by decide +kernel
theorem dL_law_367 : decode cL_law 367 = .ok (.iload_n 3, 1) := by decide +kernel
theorem dL_law_368 : decode cL_law 368 = .ok (.iconst 2, 1) := by decide +kernel
theorem dL_law_369 : decode cL_law 369 = .ok (.iadd, 1) := by decide +kernel
theorem dL_law_370 : decode cL_law 370 = .ok (.iaload, 1) := by decide +kernel
theorem dL_law_371 : decode cL_law 371 = .ok (.aload_n 0, 1) := by decide +kernel
theorem dL_law_372 : decode cL_law 372 = .ok (.iload_n 3, 1) := by decide +kernel
theorem dL_law_373 : decode cL_law 373 = .ok (.iconst 3, 1) := by decide +kernel
theorem dL_law_374 : decode cL_law 374 = .ok (.iadd, 1) := by decide +kernel
theorem dL_law_375 : decode cL_law 375 = .ok (.iaload, 1) := by decide +kernel
theorem dL_law_376 : decode cL_law 376 = .ok (.invokevirtual 41, 3) := by decide +kernel
theorem dL_law_379 : decode cL_law 379 = .ok (.aload_n 2, 1) := by decide +kernel
theorem dL_law_380 : decode cL_law 380 = .ok (.aload_n 0, 1) := by decide +kernel
theorem dL_law_381 : decode cL_law 381 = .ok (.iload_n 3, 1) := by decide +kernel
theorem dL_law_382 : decode cL_law 382 = .ok (.iconst 1, 1) := by decide +kernel
theorem dL_law_383 : decode cL_law 383 = .ok (.iadd, 1) := by decide +kernel
theorem dL_law_384 : decode cL_law 384 = .ok (.iaload, 1) := by decide +kernel
theorem dL_law_385 : decode cL_law 385 = .ok (.aload_n 0, 1) := by decide +kernel
theorem dL_law_386 : decode cL_law 386 = .ok (.iload_n 3, 1) := by decide +kernel
theorem dL_law_387 : decode cL_law 387 = .ok (.iconst 2, 1) := by decide +kernel
theorem dL_law_388 : decode cL_law 388 = .ok (.iadd, 1) := by decide +kernel
theorem dL_law_389 : decode cL_law 389 = .ok (.iaload, 1) := by decide +kernel
theorem dL_law_390 : decode cL_law 390 = .ok (.aload_n 0, 1) := by decide +kernel
theorem dL_law_391 : decode cL_law 391 = .ok (.iload_n 3, 1) := by decide +kernel
theorem dL_law_392 : decode cL_law 392 = .ok (.iconst 3, 1) := by decide +kernel
theorem dL_law_393 : decode cL_law 393 = .ok (.iadd, 1) := by decide +kernel
theorem dL_law_394 : decode cL_law 394 = .ok (.iaload, 1) := by decide +kernel
theorem dL_law_395 : decode cL_law 395 = .ok (.invokevirtual 45, 3) := by decide +kernel
theorem dL_law_398 : decode cL_law 398 = .ok (.if_icmp .eq 746, 3) := by decide +kernel
theorem dL_law_401 : decode cL_law 401 = .ok (.iconst 0, 1) := by decide +kernel
theorem dL_law_402 : decode cL_law 402 = .ok (.ireturn, 1) := by decide +kernel
theorem dL_law_403 : decode cL_law 403 = .ok (.aload_n 1, 1) := by decide +kernel
theorem dL_law_404 : decode cL_law 404 = .ok (.aload_n 0, 1) := by decide +kernel
theorem dL_law_405 : decode cL_law 405 = .ok (.iload_n 3, 1) := by decide +kernel
theorem dL_law_406 : decode cL_law 406 = .ok (.iconst 1, 1) := by decide +kernel
theorem dL_law_407 : decode cL_law 407 = .ok (.iadd, 1) := by decide +kernel
theorem dL_law_408 : decode cL_law 408 = .ok (.iaload, 1) := by decide +kernel
theorem dL_law_409 : decode cL_law 409 = .ok (.aload_n 0, 1) := by decide +kernel
theorem dL_law_410 : decode cL_law 410 = .ok (.iload_n 3, 1) := by decide +kernel
theorem dL_law_411 : decode cL_law 411 = .ok (.iconst 2, 1) := by decide +kernel
theorem dL_law_412 : decode cL_law 412 = .ok (.iadd, 1) := by decide +kernel
theorem dL_law_413 : decode cL_law 413 = .ok (.iaload, 1) := by decide +kernel
theorem dL_law_414 : decode cL_law 414 = .ok (.aload_n 0, 1) := by decide +kernel
theorem dL_law_415 : decode cL_law 415 = .ok (.iload_n 3, 1) := by decide +kernel
theorem dL_law_416 : decode cL_law 416 = .ok (.iconst 3, 1) := by decide +kernel
theorem dL_law_417 : decode cL_law 417 = .ok (.iadd, 1) := by decide +kernel
theorem dL_law_418 : decode cL_law 418 = .ok (.iaload, 1) := by decide +kernel
theorem dL_law_419 : decode cL_law 419 = .ok (.aload_n 0, 1) := by decide +kernel
theorem dL_law_420 : decode cL_law 420 = .ok (.iload_n 3, 1) := by decide +kernel
theorem dL_law_421 : decode cL_law 421 = .ok (.iconst 4, 1) := by decide +kernel
theorem dL_law_422 : decode cL_law 422 = .ok (.iadd, 1) := by decide +kernel
theorem dL_law_423 : decode cL_law 423 = .ok (.iaload, 1) := by decide +kernel
theorem dL_law_424 : decode cL_law 424 = .ok (.aload_n 0, 1) := by decide +kernel
theorem dL_law_425 : decode cL_law 425 = .ok (.iload_n 3, 1) := by decide +kernel
theorem dL_law_426 : decode cL_law 426 = .ok (.iconst 5, 1) := by decide +kernel
theorem dL_law_427 : decode cL_law 427 = .ok (.iadd, 1) := by decide +kernel
theorem dL_law_428 : decode cL_law 428 = .ok (.iaload, 1) := by decide +kernel
theorem dL_law_429 : decode cL_law 429 = .ok (.aload_n 0, 1) := by decide +kernel
theorem dL_law_430 : decode cL_law 430 = .ok (.iload_n 3, 1) := by decide +kernel
theorem dL_law_431 : decode cL_law 431 = .ok (.bipush 6, 2) := by decide +kernel
theorem dL_law_433 : decode cL_law 433 = .ok (.iadd, 1) := by decide +kernel
theorem dL_law_434 : decode cL_law 434 = .ok (.iaload, 1) := by decide +kernel
theorem dL_law_435 : decode cL_law 435 = .ok (.invokevirtual 46, 3) := by decide +kernel
theorem dL_law_438 : decode cL_law 438 = .ok (.aload_n 2, 1) := by decide +kernel
theorem dL_law_439 : decode cL_law 439 = .ok (.aload_n 0, 1) := by decide +kernel
theorem dL_law_440 : decode cL_law 440 = .ok (.iload_n 3, 1) := by decide +kernel
theorem dL_law_441 : decode cL_law 441 = .ok (.iconst 1, 1) := by decide +kernel
theorem dL_law_442 : decode cL_law 442 = .ok (.iadd, 1) := by decide +kernel
theorem dL_law_443 : decode cL_law 443 = .ok (.iaload, 1) := by decide +kernel
theorem dL_law_444 : decode cL_law 444 = .ok (.aload_n 0, 1) := by decide +kernel
theorem dL_law_445 : decode cL_law 445 = .ok (.iload_n 3, 1) := by decide +kernel
theorem dL_law_446 : decode cL_law 446 = .ok (.iconst 2, 1) := by decide +kernel
theorem dL_law_447 : decode cL_law 447 = .ok (.iadd, 1) := by decide +kernel
theorem dL_law_448 : decode cL_law 448 = .ok (.iaload, 1) := by decide +kernel
theorem dL_law_449 : decode cL_law 449 = .ok (.aload_n 0, 1) := by decide +kernel
theorem dL_law_450 : decode cL_law 450 = .ok (.iload_n 3, 1) := by decide +kernel
theorem dL_law_451 : decode cL_law 451 = .ok (.iconst 3, 1) := by decide +kernel
theorem dL_law_452 : decode cL_law 452 = .ok (.iadd, 1) := by decide +kernel
theorem dL_law_453 : decode cL_law 453 = .ok (.iaload, 1) := by decide +kernel
theorem dL_law_454 : decode cL_law 454 = .ok (.aload_n 0, 1) := by decide +kernel
theorem dL_law_455 : decode cL_law 455 = .ok (.iload_n 3, 1) := by decide +kernel
theorem dL_law_456 : decode cL_law 456 = .ok (.iconst 4, 1) := by decide +kernel
theorem dL_law_457 : decode cL_law 457 = .ok (.iadd, 1) := by decide +kernel
theorem dL_law_458 : decode cL_law 458 = .ok (.iaload, 1) := by decide +kernel
theorem dL_law_459 : decode cL_law 459 = .ok (.aload_n 0, 1) := by decide +kernel
theorem dL_law_460 : decode cL_law 460 = .ok (.iload_n 3, 1) := by decide +kernel
theorem dL_law_461 : decode cL_law 461 = .ok (.iconst 5, 1) := by decide +kernel
theorem dL_law_462 : decode cL_law 462 = .ok (.iadd, 1) := by decide +kernel
theorem dL_law_463 : decode cL_law 463 = .ok (.iaload, 1) := by decide +kernel
theorem dL_law_464 : decode cL_law 464 = .ok (.aload_n 0, 1) := by decide +kernel
theorem dL_law_465 : decode cL_law 465 = .ok (.iload_n 3, 1) := by decide +kernel
theorem dL_law_466 : decode cL_law 466 = .ok (.bipush 6, 2) := by decide +kernel
theorem dL_law_468 : decode cL_law 468 = .ok (.iadd, 1) := by decide +kernel
theorem dL_law_469 : decode cL_law 469 = .ok (.iaload, 1) := by decide +kernel
theorem dL_law_470 : decode cL_law 470 = .ok (.invokevirtual 50, 3) := by decide +kernel
theorem dL_law_473 : decode cL_law 473 = .ok (.if_icmp .eq 671, 3) := by decide +kernel
theorem dL_law_476 : decode cL_law 476 = .ok (.iconst 0, 1) := by decide +kernel
theorem dL_law_477 : decode cL_law 477 = .ok (.ireturn, 1) := by decide +kernel
theorem dL_law_478 : decode cL_law 478 = .ok (.aload_n 1, 1) := by decide +kernel
theorem dL_law_479 : decode cL_law 479 = .ok (.aload_n 0, 1) := by decide +kernel
theorem dL_law_480 : decode cL_law 480 = .ok (.iload_n 3, 1) := by decide +kernel
theorem dL_law_481 : decode cL_law 481 = .ok (.iconst 1, 1) := by decide +kernel
theorem dL_law_482 : decode cL_law 482 = .ok (.iadd, 1) := by decide +kernel
theorem dL_law_483 : decode cL_law 483 = .ok (.iaload, 1) := by decide +kernel
theorem dL_law_484 : decode cL_law 484 = .ok (.aload_n 0, 1) := by decide +kernel
theorem dL_law_485 : decode cL_law 485 = .ok (.iload_n 3, 1) := by decide +kernel
theorem dL_law_486 : decode cL_law 486 = .ok (.iconst 2, 1) := by decide +kernel
theorem dL_law_487 : decode cL_law 487 = .ok (.iadd, 1) := by decide +kernel
theorem dL_law_488 : decode cL_law 488 = .ok (.iaload, 1) := by decide +kernel
theorem dL_law_489 : decode cL_law 489 = .ok (.invokevirtual 51, 3) := by decide +kernel
theorem dL_law_492 : decode cL_law 492 = .ok (.aload_n 2, 1) := by decide +kernel
theorem dL_law_493 : decode cL_law 493 = .ok (.aload_n 0, 1) := by decide +kernel
theorem dL_law_494 : decode cL_law 494 = .ok (.iload_n 3, 1) := by decide +kernel
theorem dL_law_495 : decode cL_law 495 = .ok (.iconst 1, 1) := by decide +kernel
theorem dL_law_496 : decode cL_law 496 = .ok (.iadd, 1) := by decide +kernel
theorem dL_law_497 : decode cL_law 497 = .ok (.iaload, 1) := by decide +kernel
theorem dL_law_498 : decode cL_law 498 = .ok (.aload_n 0, 1) := by decide +kernel
theorem dL_law_499 : decode cL_law 499 = .ok (.iload_n 3, 1) := by decide +kernel
theorem dL_law_500 : decode cL_law 500 = .ok (.iconst 2, 1) := by decide +kernel
theorem dL_law_501 : decode cL_law 501 = .ok (.iadd, 1) := by decide +kernel
theorem dL_law_502 : decode cL_law 502 = .ok (.iaload, 1) := by decide +kernel
theorem dL_law_503 : decode cL_law 503 = .ok (.invokevirtual 55, 3) := by decide +kernel
theorem dL_law_506 : decode cL_law 506 = .ok (.if_icmp .eq 638, 3) := by decide +kernel
theorem dL_law_509 : decode cL_law 509 = .ok (.iconst 0, 1) := by decide +kernel
theorem dL_law_510 : decode cL_law 510 = .ok (.ireturn, 1) := by decide +kernel
theorem dL_law_511 : decode cL_law 511 = .ok (.aload_n 1, 1) := by decide +kernel
theorem dL_law_512 : decode cL_law 512 = .ok (.aload_n 0, 1) := by decide +kernel
theorem dL_law_513 : decode cL_law 513 = .ok (.iload_n 3, 1) := by decide +kernel
theorem dL_law_514 : decode cL_law 514 = .ok (.iconst 1, 1) := by decide +kernel
theorem dL_law_515 : decode cL_law 515 = .ok (.iadd, 1) := by decide +kernel
theorem dL_law_516 : decode cL_law 516 = .ok (.iaload, 1) := by decide +kernel
theorem dL_law_517 : decode cL_law 517 = .ok (.aload_n 0, 1) := by decide +kernel
theorem dL_law_518 : decode cL_law 518 = .ok (.iload_n 3, 1) := by decide +kernel
theorem dL_law_519 : decode cL_law 519 = .ok (.iconst 2, 1) := by decide +kernel
theorem dL_law_520 : decode cL_law 520 = .ok (.iadd, 1) := by decide +kernel
theorem dL_law_521 : decode cL_law 521 = .ok (.iaload, 1) := by decide +kernel
theorem dL_law_522 : decode cL_law 522 = .ok (.invokevirtual 56, 3) := by decide +kernel
theorem dL_law_525 : decode cL_law 525 = .ok (.aload_n 2, 1) := by decide +kernel
theorem dL_law_526 : decode cL_law 526 = .ok (.aload_n 0, 1) := by decide +kernel
theorem dL_law_527 : decode cL_law 527 = .ok (.iload_n 3, 1) := by decide +kernel
theorem dL_law_528 : decode cL_law 528 = .ok (.iconst 1, 1) := by decide +kernel
theorem dL_law_529 : decode cL_law 529 = .ok (.iadd, 1) := by decide +kernel
theorem dL_law_530 : decode cL_law 530 = .ok (.iaload, 1) := by decide +kernel
theorem dL_law_531 : decode cL_law 531 = .ok (.aload_n 0, 1) := by decide +kernel
theorem dL_law_532 : decode cL_law 532 = .ok (.iload_n 3, 1) := by decide +kernel
theorem dL_law_533 : decode cL_law 533 = .ok (.iconst 2, 1) := by decide +kernel
theorem dL_law_534 : decode cL_law 534 = .ok (.iadd, 1) := by decide +kernel
theorem dL_law_535 : decode cL_law 535 = .ok (.iaload, 1) := by decide +kernel
theorem dL_law_536 : decode cL_law 536 = .ok (.invokevirtual 59, 3) := by decide +kernel
theorem dL_law_539 : decode cL_law 539 = .ok (.if_icmp .eq 605, 3) := by decide +kernel
theorem dL_law_542 : decode cL_law 542 = .ok (.iconst 0, 1) := by decide +kernel
theorem dL_law_543 : decode cL_law 543 = .ok (.ireturn, 1) := by decide +kernel
theorem dL_law_544 : decode cL_law 544 = .ok (.aload_n 1, 1) := by decide +kernel
theorem dL_law_545 : decode cL_law 545 = .ok (.aload_n 0, 1) := by decide +kernel
theorem dL_law_546 : decode cL_law 546 = .ok (.iload_n 3, 1) := by decide +kernel
theorem dL_law_547 : decode cL_law 547 = .ok (.iconst 1, 1) := by decide +kernel
theorem dL_law_548 : decode cL_law 548 = .ok (.iadd, 1) := by decide +kernel
theorem dL_law_549 : decode cL_law 549 = .ok (.iaload, 1) := by decide +kernel
theorem dL_law_550 : decode cL_law 550 = .ok (.aload_n 0, 1) := by decide +kernel
theorem dL_law_551 : decode cL_law 551 = .ok (.iload_n 3, 1) := by decide +kernel
theorem dL_law_552 : decode cL_law 552 = .ok (.iconst 2, 1) := by decide +kernel
theorem dL_law_553 : decode cL_law 553 = .ok (.iadd, 1) := by decide +kernel
theorem dL_law_554 : decode cL_law 554 = .ok (.iaload, 1) := by decide +kernel
theorem dL_law_555 : decode cL_law 555 = .ok (.invokevirtual 60, 3) := by decide +kernel
theorem dL_law_558 : decode cL_law 558 = .ok (.aload_n 2, 1) := by decide +kernel
theorem dL_law_559 : decode cL_law 559 = .ok (.aload_n 0, 1) := by decide +kernel
theorem dL_law_560 : decode cL_law 560 = .ok (.iload_n 3, 1) := by decide +kernel
theorem dL_law_561 : decode cL_law 561 = .ok (.iconst 1, 1) := by decide +kernel
theorem dL_law_562 : decode cL_law 562 = .ok (.iadd, 1) := by decide +kernel
theorem dL_law_563 : decode cL_law 563 = .ok (.iaload, 1) := by decide +kernel
theorem dL_law_564 : decode cL_law 564 = .ok (.aload_n 0, 1) := by decide +kernel
theorem dL_law_565 : decode cL_law 565 = .ok (.iload_n 3, 1) := by decide +kernel
theorem dL_law_566 : decode cL_law 566 = .ok (.iconst 2, 1) := by decide +kernel
theorem dL_law_567 : decode cL_law 567 = .ok (.iadd, 1) := by decide +kernel
theorem dL_law_568 : decode cL_law 568 = .ok (.iaload, 1) := by decide +kernel
theorem dL_law_569 : decode cL_law 569 = .ok (.invokevirtual 63, 3) := by decide +kernel
theorem dL_law_572 : decode cL_law 572 = .ok (.if_icmp .eq 572, 3) := by decide +kernel
theorem dL_law_575 : decode cL_law 575 = .ok (.iconst 0, 1) := by decide +kernel
theorem dL_law_576 : decode cL_law 576 = .ok (.ireturn, 1) := by decide +kernel
theorem dL_law_577 : decode cL_law 577 = .ok (.aload_n 1, 1) := by decide +kernel
theorem dL_law_578 : decode cL_law 578 = .ok (.aload_n 0, 1) := by decide +kernel
theorem dL_law_579 : decode cL_law 579 = .ok (.iload_n 3, 1) := by decide +kernel
theorem dL_law_580 : decode cL_law 580 = .ok (.iconst 1, 1) := by decide +kernel
theorem dL_law_581 : decode cL_law 581 = .ok (.iadd, 1) := by decide +kernel
theorem dL_law_582 : decode cL_law 582 = .ok (.iaload, 1) := by decide +kernel
theorem dL_law_583 : decode cL_law 583 = .ok (.aload_n 0, 1) := by decide +kernel
theorem dL_law_584 : decode cL_law 584 = .ok (.iload_n 3, 1) := by decide +kernel
theorem dL_law_585 : decode cL_law 585 = .ok (.iconst 2, 1) := by decide +kernel
theorem dL_law_586 : decode cL_law 586 = .ok (.iadd, 1) := by decide +kernel
theorem dL_law_587 : decode cL_law 587 = .ok (.iaload, 1) := by decide +kernel
theorem dL_law_588 : decode cL_law 588 = .ok (.ifCond .eq 7, 3) := by decide +kernel
theorem dL_law_591 : decode cL_law 591 = .ok (.iconst 1, 1) := by decide +kernel
theorem dL_law_592 : decode cL_law 592 = .ok (.goto 4, 3) := by decide +kernel
theorem dL_law_595 : decode cL_law 595 = .ok (.iconst 0, 1) := by decide +kernel
theorem dL_law_596 : decode cL_law 596 = .ok (.invokevirtual 64, 3) := by decide +kernel
theorem dL_law_599 : decode cL_law 599 = .ok (.aload_n 2, 1) := by decide +kernel
theorem dL_law_600 : decode cL_law 600 = .ok (.aload_n 0, 1) := by decide +kernel
theorem dL_law_601 : decode cL_law 601 = .ok (.iload_n 3, 1) := by decide +kernel
theorem dL_law_602 : decode cL_law 602 = .ok (.iconst 1, 1) := by decide +kernel
theorem dL_law_603 : decode cL_law 603 = .ok (.iadd, 1) := by decide +kernel
theorem dL_law_604 : decode cL_law 604 = .ok (.iaload, 1) := by decide +kernel
theorem dL_law_605 : decode cL_law 605 = .ok (.aload_n 0, 1) := by decide +kernel
theorem dL_law_606 : decode cL_law 606 = .ok (.iload_n 3, 1) := by decide +kernel
theorem dL_law_607 : decode cL_law 607 = .ok (.iconst 2, 1) := by decide +kernel
theorem dL_law_608 : decode cL_law 608 = .ok (.iadd, 1) := by decide +kernel
theorem dL_law_609 : decode cL_law 609 = .ok (.iaload, 1) := by decide +kernel
theorem dL_law_610 : decode cL_law 610 = .ok (.ifCond .eq 7, 3) := by decide +kernel
theorem dL_law_613 : decode cL_law 613 = .ok (.iconst 1, 1) := by decide +kernel
theorem dL_law_614 : decode cL_law 614 = .ok (.goto 4, 3) := by decide +kernel
theorem dL_law_617 : decode cL_law 617 = .ok (.iconst 0, 1) := by decide +kernel
theorem dL_law_618 : decode cL_law 618 = .ok (.invokevirtual 68, 3) := by decide +kernel
theorem dL_law_621 : decode cL_law 621 = .ok (.if_icmp .eq 523, 3) := by decide +kernel
theorem dL_law_624 : decode cL_law 624 = .ok (.iconst 0, 1) := by decide +kernel
theorem dL_law_625 : decode cL_law 625 = .ok (.ireturn, 1) := by decide +kernel
theorem dL_law_626 : decode cL_law 626 = .ok (.aload_n 1, 1) := by decide +kernel
theorem dL_law_627 : decode cL_law 627 = .ok (.aload_n 0, 1) := by decide +kernel
theorem dL_law_628 : decode cL_law 628 = .ok (.iload_n 3, 1) := by decide +kernel
theorem dL_law_629 : decode cL_law 629 = .ok (.iconst 1, 1) := by decide +kernel
theorem dL_law_630 : decode cL_law 630 = .ok (.iadd, 1) := by decide +kernel
theorem dL_law_631 : decode cL_law 631 = .ok (.iaload, 1) := by decide +kernel
theorem dL_law_632 : decode cL_law 632 = .ok (.aload_n 0, 1) := by decide +kernel
theorem dL_law_633 : decode cL_law 633 = .ok (.iload_n 3, 1) := by decide +kernel
theorem dL_law_634 : decode cL_law 634 = .ok (.iconst 2, 1) := by decide +kernel
theorem dL_law_635 : decode cL_law 635 = .ok (.iadd, 1) := by decide +kernel
theorem dL_law_636 : decode cL_law 636 = .ok (.iaload, 1) := by decide +kernel
theorem dL_law_637 : decode cL_law 637 = .ok (.aload_n 0, 1) := by decide +kernel
theorem dL_law_638 : decode cL_law 638 = .ok (.iload_n 3, 1) := by decide +kernel
theorem dL_law_639 : decode cL_law 639 = .ok (.iconst 3, 1) := by decide +kernel
theorem dL_law_640 : decode cL_law 640 = .ok (.iadd, 1) := by decide +kernel
theorem dL_law_641 : decode cL_law 641 = .ok (.iaload, 1) := by decide +kernel
theorem dL_law_642 : decode cL_law 642 = .ok (.invokevirtual 69, 3) := by decide +kernel
theorem dL_law_645 : decode cL_law 645 = .ok (.aload_n 2, 1) := by decide +kernel
theorem dL_law_646 : decode cL_law 646 = .ok (.aload_n 0, 1) := by decide +kernel
theorem dL_law_647 : decode cL_law 647 = .ok (.iload_n 3, 1) := by decide +kernel
theorem dL_law_648 : decode cL_law 648 = .ok (.iconst 1, 1) := by decide +kernel
theorem dL_law_649 : decode cL_law 649 = .ok (.iadd, 1) := by decide +kernel
theorem dL_law_650 : decode cL_law 650 = .ok (.iaload, 1) := by decide +kernel
theorem dL_law_651 : decode cL_law 651 = .ok (.aload_n 0, 1) := by decide +kernel
theorem dL_law_652 : decode cL_law 652 = .ok (.iload_n 3, 1) := by decide +kernel
theorem dL_law_653 : decode cL_law 653 = .ok (.iconst 2, 1) := by decide +kernel
theorem dL_law_654 : decode cL_law 654 = .ok (.iadd, 1) := by decide +kernel
theorem dL_law_655 : decode cL_law 655 = .ok (.iaload, 1) := by decide +kernel
theorem dL_law_656 : decode cL_law 656 = .ok (.aload_n 0, 1) := by decide +kernel
theorem dL_law_657 : decode cL_law 657 = .ok (.iload_n 3, 1) := by decide +kernel
theorem dL_law_658 : decode cL_law 658 = .ok (.iconst 3, 1) := by decide +kernel
theorem dL_law_659 : decode cL_law 659 = .ok (.iadd, 1) := by decide +kernel
theorem dL_law_660 : decode cL_law 660 = .ok (.iaload, 1) := by decide +kernel
theorem dL_law_661 : decode cL_law 661 = .ok (.invokevirtual 72, 3) := by decide +kernel
theorem dL_law_664 : decode cL_law 664 = .ok (.if_icmp .eq 480, 3) := by decide +kernel
theorem dL_law_667 : decode cL_law 667 = .ok (.iconst 0, 1) := by decide +kernel
theorem dL_law_668 : decode cL_law 668 = .ok (.ireturn, 1) := by decide +kernel
theorem dL_law_669 : decode cL_law 669 = .ok (.aload_n 1, 1) := by decide +kernel
theorem dL_law_670 : decode cL_law 670 = .ok (.aload_n 0, 1) := by decide +kernel
theorem dL_law_671 : decode cL_law 671 = .ok (.iload_n 3, 1) := by decide +kernel
theorem dL_law_672 : decode cL_law 672 = .ok (.iconst 1, 1) := by decide +kernel
theorem dL_law_673 : decode cL_law 673 = .ok (.iadd, 1) := by decide +kernel
theorem dL_law_674 : decode cL_law 674 = .ok (.iaload, 1) := by decide +kernel
theorem dL_law_675 : decode cL_law 675 = .ok (.aload_n 0, 1) := by decide +kernel
theorem dL_law_676 : decode cL_law 676 = .ok (.iload_n 3, 1) := by decide +kernel
theorem dL_law_677 : decode cL_law 677 = .ok (.iconst 2, 1) := by decide +kernel
theorem dL_law_678 : decode cL_law 678 = .ok (.iadd, 1) := by decide +kernel
theorem dL_law_679 : decode cL_law 679 = .ok (.iaload, 1) := by decide +kernel
theorem dL_law_680 : decode cL_law 680 = .ok (.aload_n 0, 1) := by decide +kernel
theorem dL_law_681 : decode cL_law 681 = .ok (.iload_n 3, 1) := by decide +kernel
theorem dL_law_682 : decode cL_law 682 = .ok (.iconst 3, 1) := by decide +kernel
theorem dL_law_683 : decode cL_law 683 = .ok (.iadd, 1) := by decide +kernel
theorem dL_law_684 : decode cL_law 684 = .ok (.iaload, 1) := by decide +kernel
theorem dL_law_685 : decode cL_law 685 = .ok (.invokevirtual 73, 3) := by decide +kernel
theorem dL_law_688 : decode cL_law 688 = .ok (.aload_n 2, 1) := by decide +kernel
theorem dL_law_689 : decode cL_law 689 = .ok (.aload_n 0, 1) := by decide +kernel
theorem dL_law_690 : decode cL_law 690 = .ok (.iload_n 3, 1) := by decide +kernel
theorem dL_law_691 : decode cL_law 691 = .ok (.iconst 1, 1) := by decide +kernel
theorem dL_law_692 : decode cL_law 692 = .ok (.iadd, 1) := by decide +kernel
theorem dL_law_693 : decode cL_law 693 = .ok (.iaload, 1) := by decide +kernel
theorem dL_law_694 : decode cL_law 694 = .ok (.aload_n 0, 1) := by decide +kernel
theorem dL_law_695 : decode cL_law 695 = .ok (.iload_n 3, 1) := by decide +kernel
theorem dL_law_696 : decode cL_law 696 = .ok (.iconst 2, 1) := by decide +kernel
theorem dL_law_697 : decode cL_law 697 = .ok (.iadd, 1) := by decide +kernel
theorem dL_law_698 : decode cL_law 698 = .ok (.iaload, 1) := by decide +kernel
theorem dL_law_699 : decode cL_law 699 = .ok (.aload_n 0, 1) := by decide +kernel
theorem dL_law_700 : decode cL_law 700 = .ok (.iload_n 3, 1) := by decide +kernel
theorem dL_law_701 : decode cL_law 701 = .ok (.iconst 3, 1) := by decide +kernel
theorem dL_law_702 : decode cL_law 702 = .ok (.iadd, 1) := by decide +kernel
theorem dL_law_703 : decode cL_law 703 = .ok (.iaload, 1) := by decide +kernel
theorem dL_law_704 : decode cL_law 704 = .ok (.invokevirtual 76, 3) := by decide +kernel
theorem dL_law_707 : decode cL_law 707 = .ok (.if_icmp .eq 437, 3) := by decide +kernel
theorem dL_law_710 : decode cL_law 710 = .ok (.iconst 0, 1) := by decide +kernel
theorem dL_law_711 : decode cL_law 711 = .ok (.ireturn, 1) := by decide +kernel
theorem dL_law_712 : decode cL_law 712 = .ok (.aload_n 1, 1) := by decide +kernel
theorem dL_law_713 : decode cL_law 713 = .ok (.aload_n 0, 1) := by decide +kernel
theorem dL_law_714 : decode cL_law 714 = .ok (.iload_n 3, 1) := by decide +kernel
theorem dL_law_715 : decode cL_law 715 = .ok (.iconst 1, 1) := by decide +kernel
theorem dL_law_716 : decode cL_law 716 = .ok (.iadd, 1) := by decide +kernel
theorem dL_law_717 : decode cL_law 717 = .ok (.iaload, 1) := by decide +kernel
theorem dL_law_718 : decode cL_law 718 = .ok (.invokevirtual 77, 3) := by decide +kernel
theorem dL_law_721 : decode cL_law 721 = .ok (.aload_n 2, 1) := by decide +kernel
theorem dL_law_722 : decode cL_law 722 = .ok (.aload_n 0, 1) := by decide +kernel
theorem dL_law_723 : decode cL_law 723 = .ok (.iload_n 3, 1) := by decide +kernel
theorem dL_law_724 : decode cL_law 724 = .ok (.iconst 1, 1) := by decide +kernel
theorem dL_law_725 : decode cL_law 725 = .ok (.iadd, 1) := by decide +kernel
theorem dL_law_726 : decode cL_law 726 = .ok (.iaload, 1) := by decide +kernel
theorem dL_law_727 : decode cL_law 727 = .ok (.invokevirtual 81, 3) := by decide +kernel
theorem dL_law_730 : decode cL_law 730 = .ok (.if_icmp .eq 414, 3) := by decide +kernel
theorem dL_law_733 : decode cL_law 733 = .ok (.iconst 0, 1) := by decide +kernel
theorem dL_law_734 : decode cL_law 734 = .ok (.ireturn, 1) := by decide +kernel
theorem dL_law_735 : decode cL_law 735 = .ok (.aload_n 1, 1) := by decide +kernel
theorem dL_law_736 : decode cL_law 736 = .ok (.invokevirtual 82, 3) := by decide +kernel
theorem dL_law_739 : decode cL_law 739 = .ok (.aload_n 2, 1) := by decide +kernel
theorem dL_law_740 : decode cL_law 740 = .ok (.invokevirtual 85, 3) := by decide +kernel
theorem dL_law_743 : decode cL_law 743 = .ok (.if_icmp .eq 401, 3) := by decide +kernel
theorem dL_law_746 : decode cL_law 746 = .ok (.iconst 0, 1) := by decide +kernel
theorem dL_law_747 : decode cL_law 747 = .ok (.ireturn, 1) := by decide +kernel
theorem dL_law_748 : decode cL_law 748 = .ok (.aload_n 1, 1) := by decide +kernel
theorem dL_law_749 : decode cL_law 749 = .ok (.aload_n 0, 1) := by decide +kernel
theorem dL_law_750 : decode cL_law 750 = .ok (.iload_n 3, 1) := by decide +kernel
theorem dL_law_751 : decode cL_law 751 = .ok (.iconst 1, 1) := by decide +kernel
theorem dL_law_752 : decode cL_law 752 = .ok (.iadd, 1) := by decide +kernel
theorem dL_law_753 : decode cL_law 753 = .ok (.iaload, 1) := by decide +kernel
theorem dL_law_754 : decode cL_law 754 = .ok (.aload_n 0, 1) := by decide +kernel
theorem dL_law_755 : decode cL_law 755 = .ok (.iload_n 3, 1) := by decide +kernel
theorem dL_law_756 : decode cL_law 756 = .ok (.iconst 2, 1) := by decide +kernel
theorem dL_law_757 : decode cL_law 757 = .ok (.iadd, 1) := by decide +kernel
theorem dL_law_758 : decode cL_law 758 = .ok (.iaload, 1) := by decide +kernel
theorem dL_law_759 : decode cL_law 759 = .ok (.aload_n 0, 1) := by decide +kernel
theorem dL_law_760 : decode cL_law 760 = .ok (.iload_n 3, 1) := by decide +kernel
theorem dL_law_761 : decode cL_law 761 = .ok (.iconst 3, 1) := by decide +kernel
theorem dL_law_762 : decode cL_law 762 = .ok (.iadd, 1) := by decide +kernel
theorem dL_law_763 : decode cL_law 763 = .ok (.iaload, 1) := by decide +kernel
theorem dL_law_764 : decode cL_law 764 = .ok (.invokevirtual 86, 3) := by decide +kernel
theorem dL_law_767 : decode cL_law 767 = .ok (.aload_n 2, 1) := by decide +kernel
theorem dL_law_768 : decode cL_law 768 = .ok (.aload_n 0, 1) := by decide +kernel
theorem dL_law_769 : decode cL_law 769 = .ok (.iload_n 3, 1) := by decide +kernel
theorem dL_law_770 : decode cL_law 770 = .ok (.iconst 1, 1) := by decide +kernel
theorem dL_law_771 : decode cL_law 771 = .ok (.iadd, 1) := by decide +kernel
theorem dL_law_772 : decode cL_law 772 = .ok (.iaload, 1) := by decide +kernel
theorem dL_law_773 : decode cL_law 773 = .ok (.aload_n 0, 1) := by decide +kernel
theorem dL_law_774 : decode cL_law 774 = .ok (.iload_n 3, 1) := by decide +kernel
theorem dL_law_775 : decode cL_law 775 = .ok (.iconst 2, 1) := by decide +kernel
theorem dL_law_776 : decode cL_law 776 = .ok (.iadd, 1) := by decide +kernel
theorem dL_law_777 : decode cL_law 777 = .ok (.iaload, 1) := by decide +kernel
theorem dL_law_778 : decode cL_law 778 = .ok (.aload_n 0, 1) := by decide +kernel
theorem dL_law_779 : decode cL_law 779 = .ok (.iload_n 3, 1) := by decide +kernel
theorem dL_law_780 : decode cL_law 780 = .ok (.iconst 3, 1) := by decide +kernel
theorem dL_law_781 : decode cL_law 781 = .ok (.iadd, 1) := by decide +kernel
theorem dL_law_782 : decode cL_law 782 = .ok (.iaload, 1) := by decide +kernel
theorem dL_law_783 : decode cL_law 783 = .ok (.invokevirtual 89, 3) := by decide +kernel
theorem dL_law_786 : decode cL_law 786 = .ok (.if_icmp .eq 358, 3) := by decide +kernel
theorem dL_law_789 : decode cL_law 789 = .ok (.iconst 0, 1) := by decide +kernel
theorem dL_law_790 : decode cL_law 790 = .ok (.ireturn, 1) := by decide +kernel
theorem dL_law_791 : decode cL_law 791 = .ok (.aload_n 1, 1) := by decide +kernel
theorem dL_law_792 : decode cL_law 792 = .ok (.aload_n 0, 1) := by decide +kernel
theorem dL_law_793 : decode cL_law 793 = .ok (.iload_n 3, 1) := by decide +kernel
theorem dL_law_794 : decode cL_law 794 = .ok (.iconst 1, 1) := by decide +kernel
theorem dL_law_795 : decode cL_law 795 = .ok (.iadd, 1) := by decide +kernel
theorem dL_law_796 : decode cL_law 796 = .ok (.iaload, 1) := by decide +kernel
theorem dL_law_797 : decode cL_law 797 = .ok (.aload_n 0, 1) := by decide +kernel
theorem dL_law_798 : decode cL_law 798 = .ok (.iload_n 3, 1) := by decide +kernel
theorem dL_law_799 : decode cL_law 799 = .ok (.iconst 2, 1) := by decide +kernel
theorem dL_law_800 : decode cL_law 800 = .ok (.iadd, 1) := by decide +kernel
theorem dL_law_801 : decode cL_law 801 = .ok (.iaload, 1) := by decide +kernel
theorem dL_law_802 : decode cL_law 802 = .ok (.aload_n 0, 1) := by decide +kernel
theorem dL_law_803 : decode cL_law 803 = .ok (.iload_n 3, 1) := by decide +kernel
theorem dL_law_804 : decode cL_law 804 = .ok (.iconst 3, 1) := by decide +kernel
theorem dL_law_805 : decode cL_law 805 = .ok (.iadd, 1) := by decide +kernel
theorem dL_law_806 : decode cL_law 806 = .ok (.iaload, 1) := by decide +kernel
theorem dL_law_807 : decode cL_law 807 = .ok (.aload_n 0, 1) := by decide +kernel
theorem dL_law_808 : decode cL_law 808 = .ok (.iload_n 3, 1) := by decide +kernel
theorem dL_law_809 : decode cL_law 809 = .ok (.iconst 4, 1) := by decide +kernel
theorem dL_law_810 : decode cL_law 810 = .ok (.iadd, 1) := by decide +kernel
theorem dL_law_811 : decode cL_law 811 = .ok (.iaload, 1) := by decide +kernel
theorem dL_law_812 : decode cL_law 812 = .ok (.invokevirtual 90, 3) := by decide +kernel
theorem dL_law_815 : decode cL_law 815 = .ok (.aload_n 2, 1) := by decide +kernel
theorem dL_law_816 : decode cL_law 816 = .ok (.aload_n 0, 1) := by decide +kernel
theorem dL_law_817 : decode cL_law 817 = .ok (.iload_n 3, 1) := by decide +kernel
theorem dL_law_818 : decode cL_law 818 = .ok (.iconst 1, 1) := by decide +kernel
theorem dL_law_819 : decode cL_law 819 = .ok (.iadd, 1) := by decide +kernel
theorem dL_law_820 : decode cL_law 820 = .ok (.iaload, 1) := by decide +kernel
theorem dL_law_821 : decode cL_law 821 = .ok (.aload_n 0, 1) := by decide +kernel
theorem dL_law_822 : decode cL_law 822 = .ok (.iload_n 3, 1) := by decide +kernel
theorem dL_law_823 : decode cL_law 823 = .ok (.iconst 2, 1) := by decide +kernel
theorem dL_law_824 : decode cL_law 824 = .ok (.iadd, 1) := by decide +kernel
theorem dL_law_825 : decode cL_law 825 = .ok (.iaload, 1) := by decide +kernel
theorem dL_law_826 : decode cL_law 826 = .ok (.aload_n 0, 1) := by decide +kernel
theorem dL_law_827 : decode cL_law 827 = .ok (.iload_n 3, 1) := by decide +kernel
theorem dL_law_828 : decode cL_law 828 = .ok (.iconst 3, 1) := by decide +kernel
theorem dL_law_829 : decode cL_law 829 = .ok (.iadd, 1) := by decide +kernel
theorem dL_law_830 : decode cL_law 830 = .ok (.iaload, 1) := by decide +kernel
theorem dL_law_831 : decode cL_law 831 = .ok (.aload_n 0, 1) := by decide +kernel
theorem dL_law_832 : decode cL_law 832 = .ok (.iload_n 3, 1) := by decide +kernel
theorem dL_law_833 : decode cL_law 833 = .ok (.iconst 4, 1) := by decide +kernel
theorem dL_law_834 : decode cL_law 834 = .ok (.iadd, 1) := by decide +kernel
theorem dL_law_835 : decode cL_law 835 = .ok (.iaload, 1) := by decide +kernel
theorem dL_law_836 : decode cL_law 836 = .ok (.invokevirtual 94, 3) := by decide +kernel
theorem dL_law_839 : decode cL_law 839 = .ok (.if_icmp .eq 305, 3) := by decide +kernel
theorem dL_law_842 : decode cL_law 842 = .ok (.iconst 0, 1) := by decide +kernel
theorem dL_law_843 : decode cL_law 843 = .ok (.ireturn, 1) := by decide +kernel
theorem dL_law_844 : decode cL_law 844 = .ok (.aload_n 1, 1) := by decide +kernel
theorem dL_law_845 : decode cL_law 845 = .ok (.aload_n 0, 1) := by decide +kernel
theorem dL_law_846 : decode cL_law 846 = .ok (.iload_n 3, 1) := by decide +kernel
theorem dL_law_847 : decode cL_law 847 = .ok (.iconst 1, 1) := by decide +kernel
theorem dL_law_848 : decode cL_law 848 = .ok (.iadd, 1) := by decide +kernel
theorem dL_law_849 : decode cL_law 849 = .ok (.iaload, 1) := by decide +kernel
theorem dL_law_850 : decode cL_law 850 = .ok (.aload_n 0, 1) := by decide +kernel
theorem dL_law_851 : decode cL_law 851 = .ok (.iload_n 3, 1) := by decide +kernel
theorem dL_law_852 : decode cL_law 852 = .ok (.iconst 2, 1) := by decide +kernel
theorem dL_law_853 : decode cL_law 853 = .ok (.iadd, 1) := by decide +kernel
theorem dL_law_854 : decode cL_law 854 = .ok (.iaload, 1) := by decide +kernel
theorem dL_law_855 : decode cL_law 855 = .ok (.aload_n 0, 1) := by decide +kernel
theorem dL_law_856 : decode cL_law 856 = .ok (.iload_n 3, 1) := by decide +kernel
theorem dL_law_857 : decode cL_law 857 = .ok (.iconst 3, 1) := by decide +kernel
theorem dL_law_858 : decode cL_law 858 = .ok (.iadd, 1) := by decide +kernel
theorem dL_law_859 : decode cL_law 859 = .ok (.iaload, 1) := by decide +kernel
theorem dL_law_860 : decode cL_law 860 = .ok (.ifCond .eq 7, 3) := by decide +kernel
theorem dL_law_863 : decode cL_law 863 = .ok (.iconst 1, 1) := by decide +kernel
theorem dL_law_864 : decode cL_law 864 = .ok (.goto 4, 3) := by decide +kernel
theorem dL_law_867 : decode cL_law 867 = .ok (.iconst 0, 1) := by decide +kernel
theorem dL_law_868 : decode cL_law 868 = .ok (.invokevirtual 95, 3) := by decide +kernel
theorem dL_law_871 : decode cL_law 871 = .ok (.aload_n 2, 1) := by decide +kernel
theorem dL_law_872 : decode cL_law 872 = .ok (.aload_n 0, 1) := by decide +kernel
theorem dL_law_873 : decode cL_law 873 = .ok (.iload_n 3, 1) := by decide +kernel
theorem dL_law_874 : decode cL_law 874 = .ok (.iconst 1, 1) := by decide +kernel
theorem dL_law_875 : decode cL_law 875 = .ok (.iadd, 1) := by decide +kernel
theorem dL_law_876 : decode cL_law 876 = .ok (.iaload, 1) := by decide +kernel
theorem dL_law_877 : decode cL_law 877 = .ok (.aload_n 0, 1) := by decide +kernel
theorem dL_law_878 : decode cL_law 878 = .ok (.iload_n 3, 1) := by decide +kernel
theorem dL_law_879 : decode cL_law 879 = .ok (.iconst 2, 1) := by decide +kernel
theorem dL_law_880 : decode cL_law 880 = .ok (.iadd, 1) := by decide +kernel
theorem dL_law_881 : decode cL_law 881 = .ok (.iaload, 1) := by decide +kernel
theorem dL_law_882 : decode cL_law 882 = .ok (.aload_n 0, 1) := by decide +kernel
theorem dL_law_883 : decode cL_law 883 = .ok (.iload_n 3, 1) := by decide +kernel
theorem dL_law_884 : decode cL_law 884 = .ok (.iconst 3, 1) := by decide +kernel
theorem dL_law_885 : decode cL_law 885 = .ok (.iadd, 1) := by decide +kernel
theorem dL_law_886 : decode cL_law 886 = .ok (.iaload, 1) := by decide +kernel
theorem dL_law_887 : decode cL_law 887 = .ok (.ifCond .eq 7, 3) := by decide +kernel
theorem dL_law_890 : decode cL_law 890 = .ok (.iconst 1, 1) := by decide +kernel
theorem dL_law_891 : decode cL_law 891 = .ok (.goto 4, 3) := by decide +kernel
theorem dL_law_894 : decode cL_law 894 = .ok (.iconst 0, 1) := by decide +kernel
theorem dL_law_895 : decode cL_law 895 = .ok (.invokevirtual 99, 3) := by decide +kernel
theorem dL_law_898 : decode cL_law 898 = .ok (.if_icmp .eq 246, 3) := by decide +kernel
theorem dL_law_901 : decode cL_law 901 = .ok (.iconst 0, 1) := by decide +kernel
theorem dL_law_902 : decode cL_law 902 = .ok (.ireturn, 1) := by decide +kernel
theorem dL_law_903 : decode cL_law 903 = .ok (.aload_n 1, 1) := by decide +kernel
theorem dL_law_904 : decode cL_law 904 = .ok (.aload_n 0, 1) := by decide +kernel
theorem dL_law_905 : decode cL_law 905 = .ok (.iload_n 3, 1) := by decide +kernel
theorem dL_law_906 : decode cL_law 906 = .ok (.iconst 1, 1) := by decide +kernel
theorem dL_law_907 : decode cL_law 907 = .ok (.iadd, 1) := by decide +kernel
theorem dL_law_908 : decode cL_law 908 = .ok (.iaload, 1) := by decide +kernel
theorem dL_law_909 : decode cL_law 909 = .ok (.invokevirtual 100, 3) := by decide +kernel
theorem dL_law_912 : decode cL_law 912 = .ok (.aload_n 2, 1) := by decide +kernel
theorem dL_law_913 : decode cL_law 913 = .ok (.aload_n 0, 1) := by decide +kernel
theorem dL_law_914 : decode cL_law 914 = .ok (.iload_n 3, 1) := by decide +kernel
theorem dL_law_915 : decode cL_law 915 = .ok (.iconst 1, 1) := by decide +kernel
theorem dL_law_916 : decode cL_law 916 = .ok (.iadd, 1) := by decide +kernel
theorem dL_law_917 : decode cL_law 917 = .ok (.iaload, 1) := by decide +kernel
theorem dL_law_918 : decode cL_law 918 = .ok (.invokevirtual 103, 3) := by decide +kernel
theorem dL_law_921 : decode cL_law 921 = .ok (.if_icmp .eq 223, 3) := by decide +kernel
theorem dL_law_924 : decode cL_law 924 = .ok (.iconst 0, 1) := by decide +kernel
theorem dL_law_925 : decode cL_law 925 = .ok (.ireturn, 1) := by decide +kernel
theorem dL_law_926 : decode cL_law 926 = .ok (.aload_n 1, 1) := by decide +kernel
theorem dL_law_927 : decode cL_law 927 = .ok (.aload_n 0, 1) := by decide +kernel
theorem dL_law_928 : decode cL_law 928 = .ok (.iload_n 3, 1) := by decide +kernel
theorem dL_law_929 : decode cL_law 929 = .ok (.iconst 1, 1) := by decide +kernel
theorem dL_law_930 : decode cL_law 930 = .ok (.iadd, 1) := by decide +kernel
theorem dL_law_931 : decode cL_law 931 = .ok (.iaload, 1) := by decide +kernel
theorem dL_law_932 : decode cL_law 932 = .ok (.aload_n 0, 1) := by decide +kernel
theorem dL_law_933 : decode cL_law 933 = .ok (.iload_n 3, 1) := by decide +kernel
theorem dL_law_934 : decode cL_law 934 = .ok (.iconst 2, 1) := by decide +kernel
theorem dL_law_935 : decode cL_law 935 = .ok (.iadd, 1) := by decide +kernel
theorem dL_law_936 : decode cL_law 936 = .ok (.iaload, 1) := by decide +kernel
theorem dL_law_937 : decode cL_law 937 = .ok (.aload_n 0, 1) := by decide +kernel
theorem dL_law_938 : decode cL_law 938 = .ok (.iload_n 3, 1) := by decide +kernel
theorem dL_law_939 : decode cL_law 939 = .ok (.iconst 3, 1) := by decide +kernel
theorem dL_law_940 : decode cL_law 940 = .ok (.iadd, 1) := by decide +kernel
theorem dL_law_941 : decode cL_law 941 = .ok (.iaload, 1) := by decide +kernel
theorem dL_law_942 : decode cL_law 942 = .ok (.aload_n 0, 1) := by decide +kernel
theorem dL_law_943 : decode cL_law 943 = .ok (.iload_n 3, 1) := by decide +kernel
theorem dL_law_944 : decode cL_law 944 = .ok (.iconst 4, 1) := by decide +kernel
theorem dL_law_945 : decode cL_law 945 = .ok (.iadd, 1) := by decide +kernel
theorem dL_law_946 : decode cL_law 946 = .ok (.iaload, 1) := by decide +kernel
theorem dL_law_947 : decode cL_law 947 = .ok (.invokevirtual 104, 3) := by decide +kernel
theorem dL_law_950 : decode cL_law 950 = .ok (.aload_n 2, 1) := by decide +kernel
theorem dL_law_951 : decode cL_law 951 = .ok (.aload_n 0, 1) := by decide +kernel
theorem dL_law_952 : decode cL_law 952 = .ok (.iload_n 3, 1) := by decide +kernel
theorem dL_law_953 : decode cL_law 953 = .ok (.iconst 1, 1) := by decide +kernel
theorem dL_law_954 : decode cL_law 954 = .ok (.iadd, 1) := by decide +kernel
theorem dL_law_955 : decode cL_law 955 = .ok (.iaload, 1) := by decide +kernel
theorem dL_law_956 : decode cL_law 956 = .ok (.aload_n 0, 1) := by decide +kernel
theorem dL_law_957 : decode cL_law 957 = .ok (.iload_n 3, 1) := by decide +kernel
theorem dL_law_958 : decode cL_law 958 = .ok (.iconst 2, 1) := by decide +kernel
theorem dL_law_959 : decode cL_law 959 = .ok (.iadd, 1) := by decide +kernel
theorem dL_law_960 : decode cL_law 960 = .ok (.iaload, 1) := by decide +kernel
theorem dL_law_961 : decode cL_law 961 = .ok (.aload_n 0, 1) := by decide +kernel
theorem dL_law_962 : decode cL_law 962 = .ok (.iload_n 3, 1) := by decide +kernel
theorem dL_law_963 : decode cL_law 963 = .ok (.iconst 3, 1) := by decide +kernel
theorem dL_law_964 : decode cL_law 964 = .ok (.iadd, 1) := by decide +kernel
theorem dL_law_965 : decode cL_law 965 = .ok (.iaload, 1) := by decide +kernel
theorem dL_law_966 : decode cL_law 966 = .ok (.aload_n 0, 1) := by decide +kernel
theorem dL_law_967 : decode cL_law 967 = .ok (.iload_n 3, 1) := by decide +kernel
theorem dL_law_968 : decode cL_law 968 = .ok (.iconst 4, 1) := by decide +kernel
theorem dL_law_969 : decode cL_law 969 = .ok (.iadd, 1) := by decide +kernel
theorem dL_law_970 : decode cL_law 970 = .ok (.iaload, 1) := by decide +kernel
theorem dL_law_971 : decode cL_law 971 = .ok (.invokevirtual 108, 3) := by decide +kernel
theorem dL_law_974 : decode cL_law 974 = .ok (.if_icmp .eq 170, 3) := by decide +kernel
theorem dL_law_977 : decode cL_law 977 = .ok (.iconst 0, 1) := by decide +kernel
theorem dL_law_978 : decode cL_law 978 = .ok (.ireturn, 1) := by decide +kernel
theorem dL_law_979 : decode cL_law 979 = .ok (.aload_n 1, 1) := by decide +kernel
theorem dL_law_980 : decode cL_law 980 = .ok (.aload_n 0, 1) := by decide +kernel
theorem dL_law_981 : decode cL_law 981 = .ok (.iload_n 3, 1) := by decide +kernel
theorem dL_law_982 : decode cL_law 982 = .ok (.iconst 1, 1) := by decide +kernel
theorem dL_law_983 : decode cL_law 983 = .ok (.iadd, 1) := by decide +kernel
theorem dL_law_984 : decode cL_law 984 = .ok (.iaload, 1) := by decide +kernel
theorem dL_law_985 : decode cL_law 985 = .ok (.aload_n 0, 1) := by decide +kernel
theorem dL_law_986 : decode cL_law 986 = .ok (.iload_n 3, 1) := by decide +kernel
theorem dL_law_987 : decode cL_law 987 = .ok (.iconst 2, 1) := by decide +kernel
theorem dL_law_988 : decode cL_law 988 = .ok (.iadd, 1) := by decide +kernel
theorem dL_law_989 : decode cL_law 989 = .ok (.iaload, 1) := by decide +kernel
theorem dL_law_990 : decode cL_law 990 = .ok (.invokevirtual 109, 3) := by decide +kernel
theorem dL_law_993 : decode cL_law 993 = .ok (.aload_n 2, 1) := by decide +kernel
theorem dL_law_994 : decode cL_law 994 = .ok (.aload_n 0, 1) := by decide +kernel
theorem dL_law_995 : decode cL_law 995 = .ok (.iload_n 3, 1) := by decide +kernel
theorem dL_law_996 : decode cL_law 996 = .ok (.iconst 1, 1) := by decide +kernel
theorem dL_law_997 : decode cL_law 997 = .ok (.iadd, 1) := by decide +kernel
theorem dL_law_998 : decode cL_law 998 = .ok (.iaload, 1) := by decide +kernel
theorem dL_law_999 : decode cL_law 999 = .ok (.aload_n 0, 1) := by decide +kernel
theorem dL_law_1000 : decode cL_law 1000 = .ok (.iload_n 3, 1) := by decide +kernel
theorem dL_law_1001 : decode cL_law 1001 = .ok (.iconst 2, 1) := by decide +kernel
theorem dL_law_1002 : decode cL_law 1002 = .ok (.iadd, 1) := by decide +kernel
theorem dL_law_1003 : decode cL_law 1003 = .ok (.iaload, 1) := by decide +kernel
theorem dL_law_1004 : decode cL_law 1004 = .ok (.invokevirtual 112, 3) := by decide +kernel
theorem dL_law_1007 : decode cL_law 1007 = .ok (.if_icmp .eq 137, 3) := by decide +kernel
theorem dL_law_1010 : decode cL_law 1010 = .ok (.iconst 0, 1) := by decide +kernel
theorem dL_law_1011 : decode cL_law 1011 = .ok (.ireturn, 1) := by decide +kernel
theorem dL_law_1012 : decode cL_law 1012 = .ok (.aload_n 1, 1) := by decide +kernel
theorem dL_law_1013 : decode cL_law 1013 = .ok (.aload_n 0, 1) := by decide +kernel
theorem dL_law_1014 : decode cL_law 1014 = .ok (.iload_n 3, 1) := by decide +kernel
theorem dL_law_1015 : decode cL_law 1015 = .ok (.iconst 1, 1) := by decide +kernel
theorem dL_law_1016 : decode cL_law 1016 = .ok (.iadd, 1) := by decide +kernel
theorem dL_law_1017 : decode cL_law 1017 = .ok (.iaload, 1) := by decide +kernel
theorem dL_law_1018 : decode cL_law 1018 = .ok (.aload_n 0, 1) := by decide +kernel
theorem dL_law_1019 : decode cL_law 1019 = .ok (.iload_n 3, 1) := by decide +kernel
theorem dL_law_1020 : decode cL_law 1020 = .ok (.iconst 2, 1) := by decide +kernel
theorem dL_law_1021 : decode cL_law 1021 = .ok (.iadd, 1) := by decide +kernel
theorem dL_law_1022 : decode cL_law 1022 = .ok (.iaload, 1) := by decide +kernel
theorem dL_law_1023 : decode cL_law 1023 = .ok (.aload_n 0, 1) := by decide +kernel
theorem dL_law_1024 : decode cL_law 1024 = .ok (.iload_n 3, 1) := by decide +kernel
theorem dL_law_1025 : decode cL_law 1025 = .ok (.iconst 3, 1) := by decide +kernel
theorem dL_law_1026 : decode cL_law 1026 = .ok (.iadd, 1) := by decide +kernel
theorem dL_law_1027 : decode cL_law 1027 = .ok (.iaload, 1) := by decide +kernel
theorem dL_law_1028 : decode cL_law 1028 = .ok (.invokevirtual 113, 3) := by decide +kernel
theorem dL_law_1031 : decode cL_law 1031 = .ok (.aload_n 2, 1) := by decide +kernel
theorem dL_law_1032 : decode cL_law 1032 = .ok (.aload_n 0, 1) := by decide +kernel
theorem dL_law_1033 : decode cL_law 1033 = .ok (.iload_n 3, 1) := by decide +kernel
theorem dL_law_1034 : decode cL_law 1034 = .ok (.iconst 1, 1) := by decide +kernel
theorem dL_law_1035 : decode cL_law 1035 = .ok (.iadd, 1) := by decide +kernel
theorem dL_law_1036 : decode cL_law 1036 = .ok (.iaload, 1) := by decide +kernel
theorem dL_law_1037 : decode cL_law 1037 = .ok (.aload_n 0, 1) := by decide +kernel
theorem dL_law_1038 : decode cL_law 1038 = .ok (.iload_n 3, 1) := by decide +kernel
theorem dL_law_1039 : decode cL_law 1039 = .ok (.iconst 2, 1) := by decide +kernel
theorem dL_law_1040 : decode cL_law 1040 = .ok (.iadd, 1) := by decide +kernel
theorem dL_law_1041 : decode cL_law 1041 = .ok (.iaload, 1) := by decide +kernel
theorem dL_law_1042 : decode cL_law 1042 = .ok (.aload_n 0, 1) := by decide +kernel
theorem dL_law_1043 : decode cL_law 1043 = .ok (.iload_n 3, 1) := by decide +kernel
theorem dL_law_1044 : decode cL_law 1044 = .ok (.iconst 3, 1) := by decide +kernel
theorem dL_law_1045 : decode cL_law 1045 = .ok (.iadd, 1) := by decide +kernel
theorem dL_law_1046 : decode cL_law 1046 = .ok (.iaload, 1) := by decide +kernel
theorem dL_law_1047 : decode cL_law 1047 = .ok (.invokevirtual 116, 3) := by decide +kernel
theorem dL_law_1050 : decode cL_law 1050 = .ok (.if_icmp .eq 94, 3) := by decide +kernel
theorem dL_law_1053 : decode cL_law 1053 = .ok (.iconst 0, 1) := by decide +kernel
theorem dL_law_1054 : decode cL_law 1054 = .ok (.ireturn, 1) := by decide +kernel
theorem dL_law_1055 : decode cL_law 1055 = .ok (.aload_n 1, 1) := by decide +kernel
theorem dL_law_1056 : decode cL_law 1056 = .ok (.aload_n 0, 1) := by decide +kernel
theorem dL_law_1057 : decode cL_law 1057 = .ok (.iload_n 3, 1) := by decide +kernel
theorem dL_law_1058 : decode cL_law 1058 = .ok (.iconst 1, 1) := by decide +kernel
theorem dL_law_1059 : decode cL_law 1059 = .ok (.iadd, 1) := by decide +kernel
theorem dL_law_1060 : decode cL_law 1060 = .ok (.iaload, 1) := by decide +kernel
theorem dL_law_1061 : decode cL_law 1061 = .ok (.invokevirtual 117, 3) := by decide +kernel
theorem dL_law_1064 : decode cL_law 1064 = .ok (.aload_n 2, 1) := by decide +kernel
theorem dL_law_1065 : decode cL_law 1065 = .ok (.aload_n 0, 1) := by decide +kernel
theorem dL_law_1066 : decode cL_law 1066 = .ok (.iload_n 3, 1) := by decide +kernel
theorem dL_law_1067 : decode cL_law 1067 = .ok (.iconst 1, 1) := by decide +kernel
theorem dL_law_1068 : decode cL_law 1068 = .ok (.iadd, 1) := by decide +kernel
theorem dL_law_1069 : decode cL_law 1069 = .ok (.iaload, 1) := by decide +kernel
theorem dL_law_1070 : decode cL_law 1070 = .ok (.invokevirtual 120, 3) := by decide +kernel
theorem dL_law_1073 : decode cL_law 1073 = .ok (.if_icmp .eq 71, 3) := by decide +kernel
theorem dL_law_1076 : decode cL_law 1076 = .ok (.iconst 0, 1) := by decide +kernel
theorem dL_law_1077 : decode cL_law 1077 = .ok (.ireturn, 1) := by decide +kernel
theorem dL_law_1078 : decode cL_law 1078 = .ok (.aload_n 1, 1) := by decide +kernel
theorem dL_law_1079 : decode cL_law 1079 = .ok (.aload_n 0, 1) := by decide +kernel
theorem dL_law_1080 : decode cL_law 1080 = .ok (.iload_n 3, 1) := by decide +kernel
theorem dL_law_1081 : decode cL_law 1081 = .ok (.iconst 1, 1) := by decide +kernel
theorem dL_law_1082 : decode cL_law 1082 = .ok (.iadd, 1) := by decide +kernel
theorem dL_law_1083 : decode cL_law 1083 = .ok (.iaload, 1) := by decide +kernel
theorem dL_law_1084 : decode cL_law 1084 = .ok (.aload_n 0, 1) := by decide +kernel
theorem dL_law_1085 : decode cL_law 1085 = .ok (.iload_n 3, 1) := by decide +kernel
theorem dL_law_1086 : decode cL_law 1086 = .ok (.iconst 2, 1) := by decide +kernel
theorem dL_law_1087 : decode cL_law 1087 = .ok (.iadd, 1) := by decide +kernel
theorem dL_law_1088 : decode cL_law 1088 = .ok (.iaload, 1) := by decide +kernel
theorem dL_law_1089 : decode cL_law 1089 = .ok (.aload_n 0, 1) := by decide +kernel
theorem dL_law_1090 : decode cL_law 1090 = .ok (.iload_n 3, 1) := by decide +kernel
theorem dL_law_1091 : decode cL_law 1091 = .ok (.iconst 3, 1) := by decide +kernel
theorem dL_law_1092 : decode cL_law 1092 = .ok (.iadd, 1) := by decide +kernel
theorem dL_law_1093 : decode cL_law 1093 = .ok (.iaload, 1) := by decide +kernel
theorem dL_law_1094 : decode cL_law 1094 = .ok (.invokevirtual 121, 3) := by decide +kernel
theorem dL_law_1097 : decode cL_law 1097 = .ok (.aload_n 2, 1) := by decide +kernel
theorem dL_law_1098 : decode cL_law 1098 = .ok (.aload_n 0, 1) := by decide +kernel
theorem dL_law_1099 : decode cL_law 1099 = .ok (.iload_n 3, 1) := by decide +kernel
theorem dL_law_1100 : decode cL_law 1100 = .ok (.iconst 1, 1) := by decide +kernel
theorem dL_law_1101 : decode cL_law 1101 = .ok (.iadd, 1) := by decide +kernel
theorem dL_law_1102 : decode cL_law 1102 = .ok (.iaload, 1) := by decide +kernel
theorem dL_law_1103 : decode cL_law 1103 = .ok (.aload_n 0, 1) := by decide +kernel
theorem dL_law_1104 : decode cL_law 1104 = .ok (.iload_n 3, 1) := by decide +kernel
theorem dL_law_1105 : decode cL_law 1105 = .ok (.iconst 2, 1) := by decide +kernel
theorem dL_law_1106 : decode cL_law 1106 = .ok (.iadd, 1) := by decide +kernel
theorem dL_law_1107 : decode cL_law 1107 = .ok (.iaload, 1) := by decide +kernel
theorem dL_law_1108 : decode cL_law 1108 = .ok (.aload_n 0, 1) := by decide +kernel
theorem dL_law_1109 : decode cL_law 1109 = .ok (.iload_n 3, 1) := by decide +kernel
theorem dL_law_1110 : decode cL_law 1110 = .ok (.iconst 3, 1) := by decide +kernel
theorem dL_law_1111 : decode cL_law 1111 = .ok (.iadd, 1) := by decide +kernel
theorem dL_law_1112 : decode cL_law 1112 = .ok (.iaload, 1) := by decide +kernel
theorem dL_law_1113 : decode cL_law 1113 = .ok (.invokevirtual 124, 3) := by decide +kernel
theorem dL_law_1116 : decode cL_law 1116 = .ok (.if_icmp .eq 28, 3) := by decide +kernel
theorem dL_law_1119 : decode cL_law 1119 = .ok (.iconst 0, 1) := by decide +kernel
theorem dL_law_1120 : decode cL_law 1120 = .ok (.ireturn, 1) := by decide +kernel
theorem dL_law_1121 : decode cL_law 1121 = .ok (.aload_n 1, 1) := by decide +kernel
theorem dL_law_1122 : decode cL_law 1122 = .ok (.aload_n 0, 1) := by decide +kernel
theorem dL_law_1123 : decode cL_law 1123 = .ok (.iload_n 3, 1) := by decide +kernel
theorem dL_law_1124 : decode cL_law 1124 = .ok (.iconst 1, 1) := by decide +kernel
theorem dL_law_1125 : decode cL_law 1125 = .ok (.iadd, 1) := by decide +kernel
theorem dL_law_1126 : decode cL_law 1126 = .ok (.iaload, 1) := by decide +kernel
theorem dL_law_1127 : decode cL_law 1127 = .ok (.invokevirtual 125, 3) := by decide +kernel
theorem dL_law_1130 : decode cL_law 1130 = .ok (.aload_n 2, 1) := by decide +kernel
theorem dL_law_1131 : decode cL_law 1131 = .ok (.aload_n 0, 1) := by decide +kernel
theorem dL_law_1132 : decode cL_law 1132 = .ok (.iload_n 3, 1) := by decide +kernel
theorem dL_law_1133 : decode cL_law 1133 = .ok (.iconst 1, 1) := by decide +kernel
theorem dL_law_1134 : decode cL_law 1134 = .ok (.iadd, 1) := by decide +kernel
theorem dL_law_1135 : decode cL_law 1135 = .ok (.iaload, 1) := by decide +kernel
theorem dL_law_1136 : decode cL_law 1136 = .ok (.invokevirtual 128, 3) := by decide +kernel
theorem dL_law_1139 : decode cL_law 1139 = .ok (.if_icmp .eq 5, 3) := by decide +kernel
theorem dL_law_1142 : decode cL_law 1142 = .ok (.iconst 0, 1) := by decide +kernel
theorem dL_law_1143 : decode cL_law 1143 = .ok (.ireturn, 1) := by decide +kernel
theorem dL_law_1144 : decode cL_law 1144 = .ok (.iinc 3 7, 3) := by decide +kernel
theorem dL_law_1147 : decode cL_law 1147 = .ok (.goto (-1129), 3) := by decide +kernel
theorem dL_law_1150 : decode cL_law 1150 = .ok (.iconst 1, 1) := by decide +kernel
theorem dL_law_1151 : decode cL_law 1151 = .ok (.ireturn, 1) := by decide +kernel
end
section
/-! THE PURE MACHINE, part 1: numbers, pure heaps, the judgement PW -/
abbrev Hh : Type := Int → Int → Int
/-- a pure value: an int, a long, or a reference: its kind, its cell (-1: null), its length -/
abbrev PV : Type := Int ⊕ (Int ⊕ (Nat × Int × Int))
abbrev vi (x : Int) : PV := Sum.inl x
abbrev vl (x : Int) : PV := Sum.inr (Sum.inl x)
abbrev vr (t : Nat) (a n : Int) : PV := Sum.inr (Sum.inr (t, a, n))
def w32 (z : Int) : Int := (z + 2147483648) % 4294967296 - 2147483648
def w64 (z : Int) : Int := (z + 9223372036854775808) % 18446744073709551616 - 9223372036854775808
abbrev i32 (x : Int) : Int32 := Int32.ofInt x
abbrev i64 (x : Int) : Int64 := Int64.ofInt x
def r32 (x : Int) : Prop := -2147483648 ≤ x ∧ x < 2147483648
def r64 (x : Int) : Prop := -9223372036854775808 ≤ x ∧ x < 9223372036854775808
theorem w32_r (z : Int) : r32 (w32 z) := by unfold r32 w32; omega
theorem w64_r (z : Int) : r64 (w64 z) := by unfold r64 w64; omega
theorem w32_id {z : Int} (h1 : -2147483648 ≤ z) (h2 : z < 2147483648) : w32 z = z := by unfold w32; omega
theorem w64_id {z : Int} (h1 : -9223372036854775808 ≤ z) (h2 : z < 9223372036854775808) : w64 z = z := by unfold w64; omega
theorem i32_toInt {x : Int} (h : r32 x) : (i32 x).toInt = x := by
  show (Int32.ofInt x).toInt = x
  rw [Int32.toInt_ofInt]
  show Int.bmod x 4294967296 = x
  exact Int.bmod_eq_of_le (by have := h.1; omega) (by have := h.2; omega)
theorem i64_toInt {x : Int} (h : r64 x) : (i64 x).toInt = x := by
  show (Int64.ofInt x).toInt = x
  rw [Int64.toInt_ofInt]
  show Int.bmod x 18446744073709551616 = x
  exact Int.bmod_eq_of_le (by have := h.1; omega) (by have := h.2; omega)
theorem toInt_r32 (x : Int32) : r32 x.toInt := by
  have h1 := Int32.le_toInt x
  have h2 := Int32.toInt_lt x
  unfold r32
  omega
theorem toInt_r64 (x : Int64) : r64 x.toInt := by
  have h1 := Int64.le_toInt x
  have h2 := Int64.toInt_lt x
  unfold r64
  omega
theorem i32_of (x : Int32) : i32 x.toInt = x := Int32.ofInt_toInt x
theorem i64_of (x : Int64) : i64 x.toInt = x := Int64.ofInt_toInt x
theorem i32_w (z : Int) : i32 (w32 z) = i32 z := by
  apply Int32.toInt_inj.mp
  show (Int32.ofInt (w32 z)).toInt = (Int32.ofInt z).toInt
  rw [Int32.toInt_ofInt, Int32.toInt_ofInt]
  show Int.bmod (w32 z) 4294967296 = Int.bmod z 4294967296
  rw [Int.bmod_def, Int.bmod_def]
  unfold w32
  split <;> split <;> omega
theorem i64_w (z : Int) : i64 (w64 z) = i64 z := by
  apply Int64.toInt_inj.mp
  show (Int64.ofInt (w64 z)).toInt = (Int64.ofInt z).toInt
  rw [Int64.toInt_ofInt, Int64.toInt_ofInt]
  show Int.bmod (w64 z) 18446744073709551616 = Int.bmod z 18446744073709551616
  rw [Int.bmod_def, Int.bmod_def]
  unfold w64
  split <;> split <;> omega
theorem i32_add (x y : Int) : i32 x + i32 y = i32 (w32 (x + y)) := by rw [i32_w]; exact (Int32.ofInt_add x y).symm
theorem i32_sub (x y : Int) : i32 x - i32 y = i32 (w32 (x - y)) := by rw [i32_w]; exact (Int32.ofInt_sub x y).symm
theorem i32_mul (x y : Int) : i32 x * i32 y = i32 (w32 (x * y)) := by rw [i32_w]; exact (Int32.ofInt_mul x y).symm
theorem i32_neg (x : Int) : - i32 x = i32 (w32 (-x)) := by rw [i32_w]; exact (Int32.ofInt_neg x).symm
theorem i64_add (x y : Int) : i64 x + i64 y = i64 (w64 (x + y)) := by rw [i64_w]; exact (Int64.ofInt_add x y).symm
theorem i64_sub (x y : Int) : i64 x - i64 y = i64 (w64 (x - y)) := by rw [i64_w]; exact (Int64.ofInt_sub x y).symm
theorem i64_mul (x y : Int) : i64 x * i64 y = i64 (w64 (x * y)) := by rw [i64_w]; exact (Int64.ofInt_mul x y).symm
theorem i64_neg (x : Int) : - i64 x = i64 (w64 (-x)) := by rw [i64_w]; exact (Int64.ofInt_neg x).symm
theorem i32_inj {x y : Int} (hx : r32 x) (hy : r32 y) : i32 x = i32 y ↔ x = y := by
  refine ⟨fun h => ?_, fun h => by rw [h]⟩
  have := congrArg Int32.toInt h
  rwa [i32_toInt hx, i32_toInt hy] at this
theorem i64_inj {x y : Int} (hx : r64 x) (hy : r64 y) : i64 x = i64 y ↔ x = y := by
  refine ⟨fun h => ?_, fun h => by rw [h]⟩
  have := congrArg Int64.toInt h
  rwa [i64_toInt hx, i64_toInt hy] at this
theorem i32_lt {x y : Int} (hx : r32 x) (hy : r32 y) : i32 x < i32 y ↔ x < y := by
  rw [Int32.lt_iff_toInt_lt, i32_toInt hx, i32_toInt hy]
theorem i32_le {x y : Int} (hx : r32 x) (hy : r32 y) : i32 x ≤ i32 y ↔ x ≤ y := by
  rw [Int32.le_iff_toInt_le, i32_toInt hx, i32_toInt hy]
theorem i64_lt {x y : Int} (hx : r64 x) (hy : r64 y) : i64 x < i64 y ↔ x < y := by
  rw [Int64.lt_iff_toInt_lt, i64_toInt hx, i64_toInt hy]
theorem i64_le {x y : Int} (hx : r64 x) (hy : r64 y) : i64 x ≤ i64 y ↔ x ≤ y := by
  rw [Int64.le_iff_toInt_le, i64_toInt hx, i64_toInt hy]
theorem i32_div {x y : Int} (hx : r32 x) (hy : r32 y) : i32 x / i32 y = i32 (w32 (x.tdiv y)) := by
  rw [i32_w]
  apply Int32.toInt_inj.mp
  rw [Int32.toInt_div, i32_toInt hx, i32_toInt hy]
  exact Int32.toInt_ofInt.symm
theorem i64_div {x y : Int} (hx : r64 x) (hy : r64 y) : i64 x / i64 y = i64 (w64 (x.tdiv y)) := by
  rw [i64_w]
  apply Int64.toInt_inj.mp
  rw [Int64.toInt_div, i64_toInt hx, i64_toInt hy]
  exact Int64.toInt_ofInt.symm
theorem i32_rem {x y : Int} (hx : r32 x) (hy : r32 y) : i32 x - i32 x / i32 y * i32 y = i32 (x.tmod y) := by
  rw [i32_div hx hy, i32_w, i32_mul, i32_w, i32_sub, i32_w, Int.tmod_def, Int.mul_comm]
theorem i32_l (x : Int) (hx : r32 x) : (i32 x).toInt64 = i64 x := by
  apply Int64.toInt_inj.mp
  rw [Int32.toInt_toInt64, i32_toInt hx, i64_toInt ⟨by have := hx.1; omega, by have := hx.2; omega⟩]
theorem i64_i (x : Int) : (i64 x).toInt32 = i32 (w32 x) := by
  rw [i32_w]
  exact Int64.toInt32_ofInt
end
section
/-! THE PURE MACHINE, part 2: which cells there are, what they hold, the judgement PW -/
/-- classes by number: names, fields, field types, how many -/
def cN : Nat → Nat := fun c => match c with
  | 0 => 11 | 1 => 6 | 2 => 9 | 3 => 4 | 4 => 3 | 5 => 8 | 6 => 9 | 7 => 8 | 8 => 2 | 9 => 4 | 10 => 17 | 11 => 59 | _ => 0
def cR : Nat → String := fun c => match c with
  | 0 => RX0 | 1 => RX1 | 2 => RX2 | 3 => RX3 | 4 => RX4 | 5 => RX5 | 6 => RX6 | 7 => RX7 | 8 => RX8 | 9 => RX9 | 10 => RX10 | _ => RX11
def cT : Nat → u_T := fun c => match c with
  | 0 => TX0 | 1 => TX1 | 2 => TX2 | 3 => TX3 | 4 => TX4 | 5 => TX5 | 6 => TX6 | 7 => TX7 | 8 => TX8 | 9 => TX9 | 10 => TX10 | _ => TX11
def cty : Nat → Nat → FieldType := fun c => match c with
  | 0 => tyX0 | 1 => tyX1 | 2 => tyX2 | 3 => tyX3 | 4 => tyX4 | 5 => tyX5 | 6 => tyX6 | 7 => tyX7 | 8 => tyX8 | 9 => tyX9 | 10 => tyX10 | _ => tyX11
theorem cl_at {c : Nat} (h : c < 12) : vwCl[c]? = some (cR c, cT c, cN c) := by
  match c, h with
  | 0, _ => rfl | 1, _ => rfl | 2, _ => rfl | 3, _ => rfl | 4, _ => rfl | 5, _ => rfl
  | 6, _ => rfl | 7, _ => rfl | 8, _ => rfl | 9, _ => rfl | 10, _ => rfl | 11, _ => rfl
theorem cty_ok {c : Nat} (h : c < 12) : ∀ k, k < cN c → parseFieldDescriptor (cT c k).2.2.1 = some (cty c k) := by
  match c, h with
  | 0, _ => exact tyX0_ok | 1, _ => exact tyX1_ok | 2, _ => exact tyX2_ok | 3, _ => exact tyX3_ok | 4, _ => exact tyX4_ok | 5, _ => exact tyX5_ok
  | 6, _ => exact tyX6_ok | 7, _ => exact tyX7_ok | 8, _ => exact tyX8_ok | 9, _ => exact tyX9_ok | 10, _ => exact tyX10_ok | 11, _ => exact tyX11_ok
theorem cnm {c : Nat} (h : c < 12) : ∀ a, a < cN c → ∀ b, b < cN c → a ≠ b → (cT c a).2.1 ≠ (cT c b).2.1 := by
  match c, h with
  | 0, _ => exact nmX0 | 1, _ => exact nmX1 | 2, _ => exact nmX2 | 3, _ => exact nmX3 | 4, _ => exact nmX4 | 5, _ => exact nmX5
  | 6, _ => exact nmX6 | 7, _ => exact nmX7 | 8, _ => exact nmX8 | 9, _ => exact nmX9 | 10, _ => exact nmX10 | 11, _ => exact nmX11
/-- the tables' words that stay when tables grow warmer -/
def lw_good : List Cond := lw_tbl.filter goodWord
theorem lw_good_in {w : Cond} (h : w ∈ lw_tbl) (hg : goodWord w = true) : w ∈ lw_good := List.mem_filter.mpr ⟨h, hg⟩
theorem ciw {c : Nat} (h : c < 12) : ∀ w ∈ u_ws (cR c) (cT c) (cN c), w ∈ lw_good := by
  match c, h with
  | 0, _ => decide +kernel
  | 1, _ => decide +kernel
  | 2, _ => decide +kernel
  | 3, _ => decide +kernel
  | 4, _ => decide +kernel
  | 5, _ => decide +kernel
  | 6, _ => decide +kernel
  | 7, _ => decide +kernel
  | 8, _ => decide +kernel
  | 9, _ => decide +kernel
  | 10, _ => decide +kernel
  | 11, _ => decide +kernel
/-- words of nest mates -/
def isN : Cond → Bool
  | .fieldLinkNest _ _ _ _ _ _ => true
  | .methodLinkNest _ _ _ _ => true
  | _ => false
def NWd (s : State) : Prop := ∀ w ∈ tables_1, isN w = true → va_Nw w s
theorem NWd.warm {s U : State} (hW : s.WarmedH U.vm) (h : NWd s) : NWd U := by
  intro w hw hn
  have h1 := h w hw hn
  cases w with
  | fieldLinkNest a i b n d o => exact va_Nw.warmF hW h1
  | methodLinkNest a i x o => exact va_Nw.warmM hW h1
  | _ => cases hn
theorem NWd.same {u U : State} (hvm : u.vm = U.vm) (h : NWd u) : NWd U := by
  intro w hw hn
  have h1 := h w hw hn
  cases w with
  | fieldLinkNest a i b n d o => exact va_Nw.same rfl hvm h1
  | methodLinkNest a i x o => exact va_Nw.same rfl hvm h1
  | _ => cases hn
end
section
/-! THE PURE MACHINE, part 3: cells, kinds, the judgement PW, contracts CT -/
/-- launch, class numbers and slots, array classes by kind, the first new cell, the script -/
abbrev Gx : Type := Launch × va_G × (Nat → ClassId) × Nat × (Nat × Nat × (Nat → Int32))
/-- name, code, locals, answer -/
abbrev MD : Type := MethodName × ByteArray × Nat × Option FieldType
/-- kinds of cells: class c (made), 50 + c (being made), 100 int[], 101 long[], 102 byte[], 103 Rule[], 104 Chart[], 105 int[][]; and the length -/
abbrev Kd : Type := Nat × Nat
def rv (b : Nat) (a : Int) : Value := if a < 0 then .null else .ref (b + a.toNat)
def ro (b : Nat) (a : Int) : Option Nat := if a < 0 then none else some (b + a.toNat)
theorem rv_ro (b : Nat) (a : Int) : va_rf (ro b a) = rv b a := by
  unfold ro rv
  by_cases h : a < 0
  · rw [if_pos h, if_pos h]; rfl
  · rw [if_neg h, if_neg h]; rfl
def tv (b : Nat) (v : PV) : Value := match v with
  | .inl x => .int (i32 x)
  | .inr (.inl x) => .long (i64 x)
  | .inr (.inr (t, a, _)) => if t = 200 then .ref a.toNat else rv b a
def fv (b : Nat) (ty : FieldType) (x : Int) : Value := match ty with
  | .long => .long (i64 x)
  | .object _ => rv b x
  | .array _ => rv b x
  | _ => .int (i32 x)
def eT : Nat → FieldType := fun t => match t with
  | 100 => .int | 101 => .long | 102 => .byte | 103 => .object RX7 | 104 => .object RX0 | _ => .array .int
def ar (b : Nat) (t : Nat) (f : Int → Int) : (Nat → Int32) ⊕ (Nat → Int64) ⊕ (Nat → UInt32) ⊕ (Nat → UInt64) ⊕ (Nat → Option Nat) :=
  if t = 101 then .inr (.inl (fun k => i64 (f k))) else if 103 ≤ t then .inr (.inr (.inr (.inr (fun k => ro b (f k))))) else .inl (fun k => i32 (f k))
def ec (G : Gx) (f : Int → Int) (q : Kd) : va_E :=
  if q.1 < 100 then .inr (q.1 % 50, (List.range (cN (q.1 % 50))).map (fun k => fv G.2.2.2.1 (cty (q.1 % 50) k) (f k)))
  else .inl (G.2.2.1 q.1, q.2, ar G.2.2.2.1 q.1 f)
def RepH (G : Gx) (ks : List Kd) (h : Hh) (H : Heap) : Prop :=
  H.size = G.2.2.2.1 + ks.length ∧ ∀ (i : Nat) (q : Kd), ks[i]? = some q → va_at G.2.1 vwCl (G.2.2.2.1 + i, ec G (h i) q) H
/-- a reference: null, or a cell of that kind -/
def okr (ks : List Kd) (t : Nat) (x : Int) : Prop := x = -1 ∨ (0 ≤ x ∧ ks[x.toNat]? = some (t, 0))
def ccode (C : String) : Nat := if C = RX0 then 0 else if C = RX7 then 7 else if C = RX1 then 1 else if C = RX2 then 2 else if C = RX3 then 3 else if C = RX4 then 4 else if C = RX5 then 5 else if C = RX6 then 6 else if C = RX8 then 8 else if C = RX9 then 9 else 10
def okf (ks : List Kd) (ty : FieldType) (x : Int) : Prop := match ty with
  | .long => r64 x
  | .object C => okr ks (ccode C) x
  | .array _ => -1 ≤ x
  | _ => r32 x
def layM : List (Nat × Nat × Kd) := [(0, 1, 102, 120), (7, 2, 100, 5), (8, 3, 100, 5), (9, 4, 100, 5), (12, 5, 100, 6), (13, 6, 100, 6), (14, 7, 100, 30), (15, 8, 100, 30), (16, 9, 100, 30), (17, 10, 100, 1200), (19, 11, 100, 6), (20, 12, 100, 24), (21, 13, 100, 6), (22, 14, 100, 18), (23, 15, 100, 18), (24, 16, 100, 6), (25, 17, 100, 6), (26, 18, 100, 6), (28, 19, 100, 4), (31, 20, 100, 40), (32, 21, 100, 40), (33, 22, 100, 40), (34, 23, 100, 40), (35, 24, 100, 40), (37, 25, 100, 60), (38, 26, 100, 60), (39, 27, 100, 240), (40, 28, 100, 60), (41, 29, 100, 60), (43, 30, 100, 4), (44, 31, 100, 4), (45, 32, 101, 3), (46, 33, 101, 3), (47, 34, 101, 3), (48, 35, 101, 3), (49, 36, 100, 4), (54, 37, 100, 60), (55, 38, 100, 12)]
/-- where a made object's own cells lie: field, how far behind it, kind -/
def lay : Nat → List (Nat × Nat × Kd) := fun c => match c with
  | 0 => [(5, 1, 100, 4), (6, 2, 100, 3), (7, 3, 100, 3), (8, 4, 101, 4), (9, 5, 101, 4), (10, 6, 4, 0)]
  | 1 => [(0, 1, 100, 40), (1, 2, 100, 40), (2, 3, 100, 40), (3, 4, 100, 40), (4, 5, 100, 40)]
  | 2 => [(0, 1, 100, 200), (1, 2, 100, 240), (2, 3, 100, 60), (3, 4, 100, 12)]
  | 3 => [(0, 1, 100, 4), (1, 2, 101, 4)]
  | 5 => [(0, 1, 100, 5), (1, 2, 100, 5)]
  | 6 => [(0, 1, 100, 60), (1, 2, 100, 60), (2, 3, 100, 60), (3, 4, 100, 60), (4, 5, 100, 60), (5, 6, 100, 60), (6, 7, 100, 19)]
  | 7 => [(2, 1, 100, 5), (3, 2, 100, 5), (4, 3, 100, 5), (5, 4, 105, 5), (6, 10, 100, 40)]
  | 8 => [(0, 1, 102, 120)]
  | 10 => [(0, 1, 8, 0), (1, 3, 5, 0), (2, 6, 103, 6), (4, 7, 104, 6), (6, 8, 100, 4), (11, 9, 1, 0), (12, 15, 6, 0), (13, 23, 101, 4), (14, 24, 9, 0), (15, 25, 3, 0), (16, 28, 2, 0)]
  | 11 => layM
  | _ => []
def okc (ks : List Kd) (f : Int → Int) (i : Nat) (q : Kd) : Prop :=
  (q.1 < 100 → q.1 % 50 < 12 ∧ ∀ k, k < cN (q.1 % 50) → okf ks (cty (q.1 % 50) k) (f k)) ∧
  (q.1 < 50 → ∀ y ∈ lay q.1, f y.1 = i + y.2.1 ∧ ks[i + y.2.1]? = some y.2.2) ∧
  (q.1 = 100 → ∀ k : Nat, k < q.2 → r32 (f k)) ∧ (q.1 = 101 → ∀ k : Nat, k < q.2 → r64 (f k)) ∧ (q.1 = 102 → ∀ k : Nat, k < q.2 → -128 ≤ f k ∧ f k < 128) ∧
  (q.1 = 103 → ∀ k : Nat, k < q.2 → okr ks 7 (f k)) ∧ (q.1 = 104 → ∀ k : Nat, k < q.2 → okr ks 0 (f k)) ∧
  (q.1 = 105 → ∀ k : Nat, k < q.2 → f k = i + 1 + k ∧ ks[i + 1 + k]? = some (100, 40)) ∧ q.1 ≤ 105 ∧ q.2 < 65536
def WT (ks : List Kd) (h : Hh) : Prop := h (-1) 0 = ks.length ∧ ∀ (i : Nat) (q : Kd), ks[i]? = some q → okc ks (h i) i q
/-- a value as the frame has it: in its range, of its kind -/
def okv (G : Gx) (ks : List Kd) (v : PV) : Prop := match v with
  | .inl x => r32 x
  | .inr (.inl x) => r64 x
  | .inr (.inr (t, a, n)) => if t = 200 then a = G.2.2.2.2.1 ∧ n = G.2.2.2.2.2.1 else a = -1 ∨ (0 ≤ a ∧ ∃ q : Kd, ks[a.toNat]? = some q ∧ (q.2 : Int) = n ∧ q.1 = t)
/-- kinds grow at the end -/
def kle (ks ks' : List Kd) : Prop := ∀ (i : Nat) (q : Kd), ks[i]? = some q → ks'[i]? = some q
theorem kle.rf {ks : List Kd} : kle ks ks := fun _ _ h => h
theorem kle.tr {a b c : List Kd} (h1 : kle a b) (h2 : kle b c) : kle a c := fun i q h => h2 i q (h1 i q h)
theorem okv.up {G : Gx} {ks ks' : List Kd} (hk : kle ks ks') {v : PV} (h : okv G ks v) : okv G ks' v := by
  match v, h with
  | .inl x, h => exact h
  | .inr (.inl x), h => exact h
  | .inr (.inr (t, a, n)), h =>
    unfold okv at h ⊢
    dsimp only at h ⊢
    by_cases ht : t = 200
    · rw [if_pos ht] at h ⊢; exact h
    · rw [if_neg ht] at h ⊢
      rcases h with h | ⟨h0, q, h1, h2, h3⟩
      · exact Or.inl h
      · exact Or.inr ⟨h0, q, hk _ _ h1, h2, h3⟩
theorem kle.len {a b : List Kd} (h : kle a b) : a.length ≤ b.length := by
  apply Nat.le_of_not_lt
  intro hlt
  have h1 : a[b.length]? = some a[b.length] := List.getElem?_eq_getElem hlt
  have g1 := h _ _ h1
  rw [List.getElem?_eq_none (Nat.le_refl _)] at g1
  cases g1
theorem okr.up {ks ks' : List Kd} (hk : kle ks ks') {t : Nat} {x : Int} (h : okr ks t x) : okr ks' t x := by
  rcases h with h | ⟨h0, h1⟩
  · exact Or.inl h
  · exact Or.inr ⟨h0, hk _ _ h1⟩
/-- the arrays' classes -/
def tysL (G : Gx) : List (ClassId × FieldType) := [(G.2.2.1 100, .int), (G.2.2.1 101, .long), (G.2.2.1 102, .byte), (G.2.2.1 103, .object RX7), (G.2.2.1 104, .object RX0), (G.2.2.1 105, .array .int)]
def AOA (U : State) : Prop := (Cond.arrayOver (.array .int)).before #[] U = true
theorem AOA_spec {s : State} (h : AOA s) : ∃ comp c k, s.vm.findClass (FieldType.array .int).toString = some comp ∧ (s.vm.classes.findIdx? fun x => match x.kind with | .array component _ => component == comp | _ => false) = some c ∧ s.vm.classes[c]? = some k ∧ k.kind = .array comp (.array .int) ∧ s.vm.findClass ("[" ++ (FieldType.array .int).toString) = some c := by
  unfold AOA Cond.before at h
  simp only [Cond.holds, Cond.value, beq_iff_eq] at h
  cases hc : s.vm.findClass (FieldType.array .int).toString with
  | none => simp [hc] at h
  | some comp =>
    simp only [hc, Option.bind_some, Option.bind_eq_some_iff, Option.map_eq_some_iff] at h
    obtain ⟨c, hi, k, hk, hb⟩ := h
    obtain ⟨hlt, hp, -⟩ := Array.findIdx?_eq_some_iff_getElem.mp hi
    have hkk : s.vm.classes[c] = k := (Array.getElem?_eq_some_iff.mp hk).2
    rw [hkk] at hp
    cases hkind : k.kind with
    | array component ty =>
      rw [hkind] at hb hp
      simp at hb hp
      exact ⟨comp, c, k, rfl, hi, hk, by rw [hkind, hp, hb.1], hb.2⟩
    | _ => rw [hkind] at hb; simp at hb
theorem AOA.moved {u U : State} (hvm : u.vm.Alike U.vm) (h : AOA u) : AOA U := by
  obtain ⟨comp, c, k, h1, h2, h3, h4, h5⟩ := AOA_spec h
  obtain ⟨k', hk', he⟩ := hvm.2.2 _ _ h3
  have hb : U.vm.bare = u.vm.bare := by first | exact hvm.bare_eq | exact hvm.bare_eq.symm
  have e1 := va_idx_bare U.vm comp
  have e2 := va_idx_bare u.vm comp
  rw [hb] at e1
  have hi := (e1.symm.trans e2).trans h2
  have hkind : k'.kind = .array comp (.array .int) := by rw [he]; exact h4
  have f1 : U.vm.findClass (FieldType.array .int).toString = some comp := by rw [hvm.findClass]; exact h1
  have f2 : U.vm.findClass ("[" ++ (FieldType.array .int).toString) = some c := by rw [hvm.findClass]; exact h5
  unfold AOA Cond.before Cond.holds
  simp only [Cond.value]
  rw [f1, Option.bind_some]
  refine (congrArg (fun o : Option Nat => (o.bind (fun c => (U.vm.classes[c]?).map fun (k : Class) => match k.kind with | .array _ ty => decide (ty = FieldType.array .int) && decide (U.vm.findClass ("[" ++ (FieldType.array .int).toString) = some c) | _ => false) == some true)) hi).trans ?_
  simp [hk', hkind, f2]
/-- what of the tables goes along with every state -/
def KK (G : Gx) (s : State) : Prop := va_K G.2.1 vwCl (tysL G) s ∧ NWd s ∧ va_AO RX7 s ∧ va_AO RX0 s ∧ AOA s ∧ va_Nw (.castable "[I" "java/lang/Cloneable") s
theorem KK.warm {G : Gx} {s U : State} (hW : s.WarmedH U.vm) (h : KK G s) : KK G U :=
  ⟨va_K.moved hW.alike h.1, h.2.1.warm hW, va_AO.moved hW.alike h.2.2.1, va_AO.moved hW.alike h.2.2.2.1, h.2.2.2.2.1.moved hW.alike, va_Nw.warmC hW h.2.2.2.2.2⟩
theorem KK.same {G : Gx} {u U : State} (hvm : u.vm = U.vm) (h : KK G u) : KK G U := by
  have ha : u.vm.Alike U.vm := by rw [hvm]; exact Vm.Alike.refl _
  exact ⟨va_K.moved ha h.1, h.2.1.same hvm, va_AO.moved ha h.2.2.1, va_AO.moved ha h.2.2.2.1, h.2.2.2.2.1.moved ha, va_Nw.same rfl hvm h.2.2.2.2.2⟩
/-- answers -/
def rtv (b : Nat) (ret : Option FieldType) (r : Int) : Option Value := match ret with
  | none => none
  | some ty => some (fv b ty r)
def okret (ks : List Kd) (ret : Option FieldType) (r : Int) : Prop := match ret with
  | none => True
  | some ty => okf ks ty r
abbrev fre (G : Gx) : Nat → Prop := fun q => G.2.2.2.1 ≤ q
/-- what holds behind a method -/
def Qx (G : Gx) (ret : Option FieldType) (tk : List PV) (K : Int → Hh → Prop) (ks0 : List Kd) : Array Value → State → Outcome → State → Prop := fun _ st oc t =>
  (∃ (r : Int) (h : Hh) (ks : List Kd), oc = .returned (rtv G.2.2.2.1 ret r) ∧ K r h ∧ kle ks0 ks ∧ WT ks h ∧ okret ks ret r ∧ RepH G ks h t.heap ∧ ∀ v ∈ tk, okv G ks v) ∧ va_F (fre G) st t
/-- the fixed things of a method's run -/
def Cx (G : Gx) (M : MD) (p : Program) (s : State) (m : MethodId) (args : Array Value) (meth : Method) (c : Code) : Prop :=
  p.tables.exec = Jvm.exec ∧ c.code = M.2.1 ∧ meth.sig.returnType = M.2.2.2 ∧ c.maxLocals = M.2.2.1 ∧ s.vm.findClass M.1.cls = some m.cls ∧ (∀ w ∈ lw_good, w.before args s = true) ∧ meth.locks = false ∧ meth.name = M.1.name ∧ KK G s ∧ G.2.2.2.1 ≤ s.heap.size ∧ (M.1 = yL_law → va_X G.2.2.2.2.1 G.2.2.2.2.2.1 G.2.2.2.2.2.2 s s.heap ∧ G.2.2.2.2.1 < s.heap.size ∧ G.2.2.2.1 = s.heap.size)
def wsM (M : MD) : List Cond := Cond.code M.1 M.2.1 M.2.2.1 M.2.2.2 :: lw_good
/-- a method's contract -/
def CT (G : Gx) (M : MD) (rm : Room) (mc ms : Nat) (tk ps : List PV) (h : Hh) (K : Int → Hh → Prop) : Prop :=
  ∀ ks : List Kd, WT ks h → (∀ v ∈ ps, okv G ks v) → Met G.1 M.1 (wsM M) rm (va_Pc (ps.map (tv G.2.2.2.1)) (fun U => RepH G ks h U.heap ∧ KK G U ∧ G.2.2.2.1 ≤ U.heap.size)) (Qx G M.2.2.2 tk K ks) mc ms (fre G)
/-- a method on its way: at pc, with locals, stack and tokens -/
def PW (G : Gx) (M : MD) (rm : Room) (mc ms : Nat) (tk : List PV) (n0 : Int) (K : Int → Hh → Prop) (pc : Nat) (ls : List (Nat × PV)) (st kn : List PV) (cells slots : Nat) (h : Hh) : Prop :=
  ∀ (p : Program) (e : Env) (s : State) (m : MethodId) (args : Array Value) (below : List Frame) (meth : Method) (c : Code) (H : Heap) (locs : List Loc) (L : Array Slot) (ks ks0 : List Kd),
    Cx G M p s m args meth c → va_S (fre G) s.heap H locs → RepH G ks h H → WT ks h → lv_has L M.2.2.1 (ls.map fun q => (q.1, tv G.2.2.2.1 q.2)) → (∀ q ∈ ls, okv G ks q.2) → (∀ v ∈ st, okv G ks v) → (∀ v ∈ kn, okv G ks v) → kle ks0 ks → (ks0.length : Int) = n0 →
    W p G.1 e rm s m args below meth c H locs cells slots (MQ below (Qx G M.2.2.2 tk K ks0) args s mc ms (fre G)) (F0 m pc L (st.map (tv G.2.2.2.1)))
end
section
theorem tmod_r32 {x y : Int} (hx : r32 x) : r32 (x.tmod y) := by
  have h1 : (x.tmod y).natAbs ≤ x.natAbs := by rw [Int.natAbs_tmod]; exact Nat.mod_le _ _
  have h2 := hx.1
  have h3 := hx.2
  have h4 : x = -2147483648 → r32 (x.tmod y) := by
    intro e
    have h5 : (x.tmod y) = -((-x).tmod y) := by rw [Int.neg_tmod, Int.neg_neg]
    have h6 : 0 ≤ (-x).tmod y := Int.tmod_nonneg y (by omega)
    unfold r32; omega
  by_cases e : x = -2147483648
  · exact h4 e
  · unfold r32; omega
theorem r32_64 {x : Int} (hx : r32 x) : r64 x := by have := hx.1; have := hx.2; unfold r64; omega
theorem tv_cat1 (b : Nat) {v : PV} (hv : ∀ x, v ≠ vl x) : (tv b v).category = 1 := by
  match v, hv with
  | .inl x, _ => rfl
  | .inr (.inl x), hv => exact absurd rfl (hv x)
  | .inr (.inr (t, a, n)), _ =>
    show (if t = 200 then Value.ref a.toNat else rv b a).category = 1
    split
    · rfl
    · unfold rv; split <;> rfl
/-! rules of PW, 1: no heap -/
section PR1
variable {G : Gx} {M : MD} {rm : Room} {mc ms : Nat} {tk : List PV} {n0 : Int} {K : Int → Hh → Prop} {pc : Nat} {ls : List (Nat × PV)} {st kn : List PV} {cells slots : Nat} {h : Hh}
theorem p_iadd {x y : Int} (hd : decode M.2.1 pc = .ok (.iadd, 1)) (k : PW G M rm mc ms tk n0 K (pc + 1) ls (vi (w32 (x + y)) :: st) kn cells slots h) : PW G M rm mc ms tk n0 K pc ls (vi y :: vi x :: st) kn cells slots h := by
  intro p e s m args below meth c H locs L ks ks0 C hS hR hW hl hol hos hon hle hn0
  have hy := (List.forall_mem_cons.mp hos).1
  have hx := (List.forall_mem_cons.mp (List.forall_mem_cons.mp hos).2).1
  have ht := (List.forall_mem_cons.mp (List.forall_mem_cons.mp hos).2).2
  refine lv_iadd C.1 C.2.1 hd ?_
  rw [i32_add]
  exact k p e s m args below meth c H locs L ks ks0 C hS hR hW hl hol (List.forall_mem_cons.mpr ⟨w32_r _, ht⟩) hon hle hn0
theorem p_isub {x y : Int} (hd : decode M.2.1 pc = .ok (.isub, 1)) (k : PW G M rm mc ms tk n0 K (pc + 1) ls (vi (w32 (x - y)) :: st) kn cells slots h) : PW G M rm mc ms tk n0 K pc ls (vi y :: vi x :: st) kn cells slots h := by
  intro p e s m args below meth c H locs L ks ks0 C hS hR hW hl hol hos hon hle hn0
  have hy := (List.forall_mem_cons.mp hos).1
  have hx := (List.forall_mem_cons.mp (List.forall_mem_cons.mp hos).2).1
  have ht := (List.forall_mem_cons.mp (List.forall_mem_cons.mp hos).2).2
  refine lv_isub C.1 C.2.1 hd ?_
  rw [i32_sub]
  exact k p e s m args below meth c H locs L ks ks0 C hS hR hW hl hol (List.forall_mem_cons.mpr ⟨w32_r _, ht⟩) hon hle hn0
theorem p_imul {x y : Int} (hd : decode M.2.1 pc = .ok (.imul, 1)) (k : PW G M rm mc ms tk n0 K (pc + 1) ls (vi (w32 (x * y)) :: st) kn cells slots h) : PW G M rm mc ms tk n0 K pc ls (vi y :: vi x :: st) kn cells slots h := by
  intro p e s m args below meth c H locs L ks ks0 C hS hR hW hl hol hos hon hle hn0
  have hy := (List.forall_mem_cons.mp hos).1
  have hx := (List.forall_mem_cons.mp (List.forall_mem_cons.mp hos).2).1
  have ht := (List.forall_mem_cons.mp (List.forall_mem_cons.mp hos).2).2
  refine lv_imul C.1 C.2.1 hd ?_
  rw [i32_mul]
  exact k p e s m args below meth c H locs L ks ks0 C hS hR hW hl hol (List.forall_mem_cons.mpr ⟨w32_r _, ht⟩) hon hle hn0
theorem p_iand {x y : Int} (hd : decode M.2.1 pc = .ok (.iand, 1)) (k : PW G M rm mc ms tk n0 K (pc + 1) ls (vi ((i32 x &&& i32 y).toInt) :: st) kn cells slots h) : PW G M rm mc ms tk n0 K pc ls (vi y :: vi x :: st) kn cells slots h := by
  intro p e s m args below meth c H locs L ks ks0 C hS hR hW hl hol hos hon hle hn0
  have hy := (List.forall_mem_cons.mp hos).1
  have hx := (List.forall_mem_cons.mp (List.forall_mem_cons.mp hos).2).1
  have ht := (List.forall_mem_cons.mp (List.forall_mem_cons.mp hos).2).2
  refine lv_iand C.1 C.2.1 hd ?_
  rw [← i32_of (i32 x &&& i32 y)]
  exact k p e s m args below meth c H locs L ks ks0 C hS hR hW hl hol (List.forall_mem_cons.mpr ⟨toInt_r32 _, ht⟩) hon hle hn0
theorem p_ior {x y : Int} (hd : decode M.2.1 pc = .ok (.ior, 1)) (k : PW G M rm mc ms tk n0 K (pc + 1) ls (vi ((i32 x ||| i32 y).toInt) :: st) kn cells slots h) : PW G M rm mc ms tk n0 K pc ls (vi y :: vi x :: st) kn cells slots h := by
  intro p e s m args below meth c H locs L ks ks0 C hS hR hW hl hol hos hon hle hn0
  have hy := (List.forall_mem_cons.mp hos).1
  have hx := (List.forall_mem_cons.mp (List.forall_mem_cons.mp hos).2).1
  have ht := (List.forall_mem_cons.mp (List.forall_mem_cons.mp hos).2).2
  refine lv_ior C.1 C.2.1 hd ?_
  rw [← i32_of (i32 x ||| i32 y)]
  exact k p e s m args below meth c H locs L ks ks0 C hS hR hW hl hol (List.forall_mem_cons.mpr ⟨toInt_r32 _, ht⟩) hon hle hn0
theorem p_ixor {x y : Int} (hd : decode M.2.1 pc = .ok (.ixor, 1)) (k : PW G M rm mc ms tk n0 K (pc + 1) ls (vi ((i32 x ^^^ i32 y).toInt) :: st) kn cells slots h) : PW G M rm mc ms tk n0 K pc ls (vi y :: vi x :: st) kn cells slots h := by
  intro p e s m args below meth c H locs L ks ks0 C hS hR hW hl hol hos hon hle hn0
  have hy := (List.forall_mem_cons.mp hos).1
  have hx := (List.forall_mem_cons.mp (List.forall_mem_cons.mp hos).2).1
  have ht := (List.forall_mem_cons.mp (List.forall_mem_cons.mp hos).2).2
  refine lv_ixor C.1 C.2.1 hd ?_
  rw [← i32_of (i32 x ^^^ i32 y)]
  exact k p e s m args below meth c H locs L ks ks0 C hS hR hW hl hol (List.forall_mem_cons.mpr ⟨toInt_r32 _, ht⟩) hon hle hn0
theorem p_ishl {x y : Int} (hd : decode M.2.1 pc = .ok (.ishl, 1)) (k : PW G M rm mc ms tk n0 K (pc + 1) ls (vi ((i32 x <<< (i32 y &&& 31)).toInt) :: st) kn cells slots h) : PW G M rm mc ms tk n0 K pc ls (vi y :: vi x :: st) kn cells slots h := by
  intro p e s m args below meth c H locs L ks ks0 C hS hR hW hl hol hos hon hle hn0
  have hy := (List.forall_mem_cons.mp hos).1
  have hx := (List.forall_mem_cons.mp (List.forall_mem_cons.mp hos).2).1
  have ht := (List.forall_mem_cons.mp (List.forall_mem_cons.mp hos).2).2
  refine lv_ishl C.1 C.2.1 hd ?_
  rw [← i32_of (i32 x <<< (i32 y &&& 31))]
  exact k p e s m args below meth c H locs L ks ks0 C hS hR hW hl hol (List.forall_mem_cons.mpr ⟨toInt_r32 _, ht⟩) hon hle hn0
theorem p_ishr {x y : Int} (hd : decode M.2.1 pc = .ok (.ishr, 1)) (k : PW G M rm mc ms tk n0 K (pc + 1) ls (vi ((i32 x >>> (i32 y &&& 31)).toInt) :: st) kn cells slots h) : PW G M rm mc ms tk n0 K pc ls (vi y :: vi x :: st) kn cells slots h := by
  intro p e s m args below meth c H locs L ks ks0 C hS hR hW hl hol hos hon hle hn0
  have hy := (List.forall_mem_cons.mp hos).1
  have hx := (List.forall_mem_cons.mp (List.forall_mem_cons.mp hos).2).1
  have ht := (List.forall_mem_cons.mp (List.forall_mem_cons.mp hos).2).2
  refine lv_ishr C.1 C.2.1 hd ?_
  rw [← i32_of (i32 x >>> (i32 y &&& 31))]
  exact k p e s m args below meth c H locs L ks ks0 C hS hR hW hl hol (List.forall_mem_cons.mpr ⟨toInt_r32 _, ht⟩) hon hle hn0
theorem p_iushr {x y : Int} (hd : decode M.2.1 pc = .ok (.iushr, 1)) (k : PW G M rm mc ms tk n0 K (pc + 1) ls (vi (((i32 x).toUInt32 >>> ((i32 y).toUInt32 &&& Int32.toUInt32 31)).toInt32.toInt) :: st) kn cells slots h) : PW G M rm mc ms tk n0 K pc ls (vi y :: vi x :: st) kn cells slots h := by
  intro p e s m args below meth c H locs L ks ks0 C hS hR hW hl hol hos hon hle hn0
  have hy := (List.forall_mem_cons.mp hos).1
  have hx := (List.forall_mem_cons.mp (List.forall_mem_cons.mp hos).2).1
  have ht := (List.forall_mem_cons.mp (List.forall_mem_cons.mp hos).2).2
  refine lv_iushr C.1 C.2.1 (v := i32 ((i32 x).toUInt32 >>> ((i32 y).toUInt32 &&& Int32.toUInt32 31)).toInt32.toInt) hd (i32_of _).symm ?_
  exact k p e s m args below meth c H locs L ks ks0 C hS hR hW hl hol (List.forall_mem_cons.mpr ⟨toInt_r32 _, ht⟩) hon hle hn0
theorem p_idiv {x y : Int} (hd : decode M.2.1 pc = .ok (.idiv, 1)) (h0 : y ≠ 0) (k : PW G M rm mc ms tk n0 K (pc + 1) ls (vi (w32 (x.tdiv y)) :: st) kn cells slots h) : PW G M rm mc ms tk n0 K pc ls (vi y :: vi x :: st) kn cells slots h := by
  intro p e s m args below meth c H locs L ks ks0 C hS hR hW hl hol hos hon hle hn0
  have hy := (List.forall_mem_cons.mp hos).1
  have hx := (List.forall_mem_cons.mp (List.forall_mem_cons.mp hos).2).1
  have ht := (List.forall_mem_cons.mp (List.forall_mem_cons.mp hos).2).2
  refine lv_idiv C.1 C.2.1 hd (fun q => h0 ((i32_inj hy (by unfold r32; omega)).mp q)) ?_
  rw [i32_div hx hy]
  exact k p e s m args below meth c H locs L ks ks0 C hS hR hW hl hol (List.forall_mem_cons.mpr ⟨w32_r _, ht⟩) hon hle hn0
theorem p_irem {x y : Int} (hd : decode M.2.1 pc = .ok (.irem, 1)) (h0 : y ≠ 0) (k : PW G M rm mc ms tk n0 K (pc + 1) ls (vi (x.tmod y) :: st) kn cells slots h) : PW G M rm mc ms tk n0 K pc ls (vi y :: vi x :: st) kn cells slots h := by
  intro p e s m args below meth c H locs L ks ks0 C hS hR hW hl hol hos hon hle hn0
  have hy := (List.forall_mem_cons.mp hos).1
  have hx := (List.forall_mem_cons.mp (List.forall_mem_cons.mp hos).2).1
  have ht := (List.forall_mem_cons.mp (List.forall_mem_cons.mp hos).2).2
  refine lv_irem C.1 C.2.1 hd (fun q => h0 ((i32_inj hy (by unfold r32; omega)).mp q)) ?_
  rw [i32_rem hx hy]
  exact k p e s m args below meth c H locs L ks ks0 C hS hR hW hl hol (List.forall_mem_cons.mpr ⟨tmod_r32 hx, ht⟩) hon hle hn0
theorem p_ineg {x : Int} (hd : decode M.2.1 pc = .ok (.ineg, 1)) (k : PW G M rm mc ms tk n0 K (pc + 1) ls (vi (w32 (-x)) :: st) kn cells slots h) : PW G M rm mc ms tk n0 K pc ls (vi x :: st) kn cells slots h := by
  intro p e s m args below meth c H locs L ks ks0 C hS hR hW hl hol hos hon hle hn0
  have ht := (List.forall_mem_cons.mp hos).2
  refine lv_ineg C.1 C.2.1 hd ?_
  rw [i32_neg]
  exact k p e s m args below meth c H locs L ks ks0 C hS hR hW hl hol (List.forall_mem_cons.mpr ⟨w32_r _, ht⟩) hon hle hn0
theorem p_ladd {x y : Int} (hd : decode M.2.1 pc = .ok (.ladd, 1)) (k : PW G M rm mc ms tk n0 K (pc + 1) ls (vl (w64 (x + y)) :: st) kn cells slots h) : PW G M rm mc ms tk n0 K pc ls (vl y :: vl x :: st) kn cells slots h := by
  intro p e s m args below meth c H locs L ks ks0 C hS hR hW hl hol hos hon hle hn0
  have hy := (List.forall_mem_cons.mp hos).1
  have hx := (List.forall_mem_cons.mp (List.forall_mem_cons.mp hos).2).1
  have ht := (List.forall_mem_cons.mp (List.forall_mem_cons.mp hos).2).2
  refine lv_ladd C.1 C.2.1 hd ?_
  rw [i64_add]
  exact k p e s m args below meth c H locs L ks ks0 C hS hR hW hl hol (List.forall_mem_cons.mpr ⟨w64_r _, ht⟩) hon hle hn0
theorem p_lsub {x y : Int} (hd : decode M.2.1 pc = .ok (.lsub, 1)) (k : PW G M rm mc ms tk n0 K (pc + 1) ls (vl (w64 (x - y)) :: st) kn cells slots h) : PW G M rm mc ms tk n0 K pc ls (vl y :: vl x :: st) kn cells slots h := by
  intro p e s m args below meth c H locs L ks ks0 C hS hR hW hl hol hos hon hle hn0
  have hy := (List.forall_mem_cons.mp hos).1
  have hx := (List.forall_mem_cons.mp (List.forall_mem_cons.mp hos).2).1
  have ht := (List.forall_mem_cons.mp (List.forall_mem_cons.mp hos).2).2
  refine lv_lsub C.1 C.2.1 hd ?_
  rw [i64_sub]
  exact k p e s m args below meth c H locs L ks ks0 C hS hR hW hl hol (List.forall_mem_cons.mpr ⟨w64_r _, ht⟩) hon hle hn0
theorem p_lmul {x y : Int} (hd : decode M.2.1 pc = .ok (.lmul, 1)) (k : PW G M rm mc ms tk n0 K (pc + 1) ls (vl (w64 (x * y)) :: st) kn cells slots h) : PW G M rm mc ms tk n0 K pc ls (vl y :: vl x :: st) kn cells slots h := by
  intro p e s m args below meth c H locs L ks ks0 C hS hR hW hl hol hos hon hle hn0
  have hy := (List.forall_mem_cons.mp hos).1
  have hx := (List.forall_mem_cons.mp (List.forall_mem_cons.mp hos).2).1
  have ht := (List.forall_mem_cons.mp (List.forall_mem_cons.mp hos).2).2
  refine lv_lmul C.1 C.2.1 hd ?_
  rw [i64_mul]
  exact k p e s m args below meth c H locs L ks ks0 C hS hR hW hl hol (List.forall_mem_cons.mpr ⟨w64_r _, ht⟩) hon hle hn0
theorem p_lxor {x y : Int} (hd : decode M.2.1 pc = .ok (.lxor, 1)) (k : PW G M rm mc ms tk n0 K (pc + 1) ls (vl ((i64 x ^^^ i64 y).toInt) :: st) kn cells slots h) : PW G M rm mc ms tk n0 K pc ls (vl y :: vl x :: st) kn cells slots h := by
  intro p e s m args below meth c H locs L ks ks0 C hS hR hW hl hol hos hon hle hn0
  have hy := (List.forall_mem_cons.mp hos).1
  have hx := (List.forall_mem_cons.mp (List.forall_mem_cons.mp hos).2).1
  have ht := (List.forall_mem_cons.mp (List.forall_mem_cons.mp hos).2).2
  refine lv_lxor C.1 C.2.1 hd ?_
  rw [← i64_of (i64 x ^^^ i64 y)]
  exact k p e s m args below meth c H locs L ks ks0 C hS hR hW hl hol (List.forall_mem_cons.mpr ⟨toInt_r64 _, ht⟩) hon hle hn0
theorem p_ldiv {x y : Int} (hd : decode M.2.1 pc = .ok (.ldiv, 1)) (h0 : y ≠ 0) (k : PW G M rm mc ms tk n0 K (pc + 1) ls (vl (w64 (x.tdiv y)) :: st) kn cells slots h) : PW G M rm mc ms tk n0 K pc ls (vl y :: vl x :: st) kn cells slots h := by
  intro p e s m args below meth c H locs L ks ks0 C hS hR hW hl hol hos hon hle hn0
  have hy := (List.forall_mem_cons.mp hos).1
  have hx := (List.forall_mem_cons.mp (List.forall_mem_cons.mp hos).2).1
  have ht := (List.forall_mem_cons.mp (List.forall_mem_cons.mp hos).2).2
  refine lv_ldiv C.1 C.2.1 hd (fun q => h0 ((i64_inj hy (by unfold r64; omega)).mp q)) ?_
  rw [i64_div hx hy]
  exact k p e s m args below meth c H locs L ks ks0 C hS hR hW hl hol (List.forall_mem_cons.mpr ⟨w64_r _, ht⟩) hon hle hn0
theorem p_lneg {x : Int} (hd : decode M.2.1 pc = .ok (.lneg, 1)) (k : PW G M rm mc ms tk n0 K (pc + 1) ls (vl (w64 (-x)) :: st) kn cells slots h) : PW G M rm mc ms tk n0 K pc ls (vl x :: st) kn cells slots h := by
  intro p e s m args below meth c H locs L ks ks0 C hS hR hW hl hol hos hon hle hn0
  have ht := (List.forall_mem_cons.mp hos).2
  refine lv_lneg C.1 C.2.1 hd ?_
  rw [i64_neg]
  exact k p e s m args below meth c H locs L ks ks0 C hS hR hW hl hol (List.forall_mem_cons.mpr ⟨w64_r _, ht⟩) hon hle hn0
theorem p_i2l {x : Int} (hd : decode M.2.1 pc = .ok (.i2l, 1)) (k : PW G M rm mc ms tk n0 K (pc + 1) ls (vl x :: st) kn cells slots h) : PW G M rm mc ms tk n0 K pc ls (vi x :: st) kn cells slots h := by
  intro p e s m args below meth c H locs L ks ks0 C hS hR hW hl hol hos hon hle hn0
  have hx := (List.forall_mem_cons.mp hos).1
  have ht := (List.forall_mem_cons.mp hos).2
  refine lv_i2l C.1 C.2.1 hd (i32_l x hx) ?_
  exact k p e s m args below meth c H locs L ks ks0 C hS hR hW hl hol (List.forall_mem_cons.mpr ⟨r32_64 hx, ht⟩) hon hle hn0
theorem p_l2i {x : Int} (hd : decode M.2.1 pc = .ok (.l2i, 1)) (k : PW G M rm mc ms tk n0 K (pc + 1) ls (vi (w32 x) :: st) kn cells slots h) : PW G M rm mc ms tk n0 K pc ls (vl x :: st) kn cells slots h := by
  intro p e s m args below meth c H locs L ks ks0 C hS hR hW hl hol hos hon hle hn0
  have ht := (List.forall_mem_cons.mp hos).2
  refine lv_l2i C.1 C.2.1 hd (i64_i x) ?_
  exact k p e s m args below meth c H locs L ks ks0 C hS hR hW hl hol (List.forall_mem_cons.mpr ⟨w32_r _, ht⟩) hon hle hn0
theorem p_i2b {x : Int} (hd : decode M.2.1 pc = .ok (.i2b, 1)) (k : PW G M rm mc ms tk n0 K (pc + 1) ls (vi ((i32 x).toInt8.toInt32.toInt) :: st) kn cells slots h) : PW G M rm mc ms tk n0 K pc ls (vi x :: st) kn cells slots h := by
  intro p e s m args below meth c H locs L ks ks0 C hS hR hW hl hol hos hon hle hn0
  have ht := (List.forall_mem_cons.mp hos).2
  refine lv_i2b C.1 C.2.1 (v := i32 ((i32 x).toInt8.toInt32.toInt)) hd (i32_of _).symm ?_
  exact k p e s m args below meth c H locs L ks ks0 C hS hR hW hl hol (List.forall_mem_cons.mpr ⟨toInt_r32 _, ht⟩) hon hle hn0
theorem p_iconst {n : Int} (hd : decode M.2.1 pc = .ok (.iconst n, 1)) (hn : -2147483648 ≤ n ∧ n < 2147483648) (k : PW G M rm mc ms tk n0 K (pc + 1) ls (vi n :: st) kn cells slots h) : PW G M rm mc ms tk n0 K pc ls st kn cells slots h := by
  intro p e s m args below meth c H locs L ks ks0 C hS hR hW hl hol hos hon hle hn0
  refine lv_iconst C.1 C.2.1 (v := i32 n) hd rfl ?_
  exact k p e s m args below meth c H locs L ks ks0 C hS hR hW hl hol (List.forall_mem_cons.mpr ⟨hn, hos⟩) hon hle hn0
theorem p_bipush {n : Int} (hd : decode M.2.1 pc = .ok (.bipush n, 2)) (hn : -2147483648 ≤ n ∧ n < 2147483648) (hv : (Int8.ofInt n).toInt32 = i32 n) (k : PW G M rm mc ms tk n0 K (pc + 2) ls (vi n :: st) kn cells slots h) : PW G M rm mc ms tk n0 K pc ls st kn cells slots h := by
  intro p e s m args below meth c H locs L ks ks0 C hS hR hW hl hol hos hon hle hn0
  refine lv_bipush C.1 C.2.1 (v := i32 n) hd hv ?_
  exact k p e s m args below meth c H locs L ks ks0 C hS hR hW hl hol (List.forall_mem_cons.mpr ⟨hn, hos⟩) hon hle hn0
theorem p_sipush {n : Int} (hd : decode M.2.1 pc = .ok (.sipush n, 3)) (hn : -2147483648 ≤ n ∧ n < 2147483648) (hv : (Int16.ofInt n).toInt32 = i32 n) (k : PW G M rm mc ms tk n0 K (pc + 3) ls (vi n :: st) kn cells slots h) : PW G M rm mc ms tk n0 K pc ls st kn cells slots h := by
  intro p e s m args below meth c H locs L ks ks0 C hS hR hW hl hol hos hon hle hn0
  refine lv_sipush C.1 C.2.1 (v := i32 n) hd hv ?_
  exact k p e s m args below meth c H locs L ks ks0 C hS hR hW hl hol (List.forall_mem_cons.mpr ⟨hn, hos⟩) hon hle hn0
theorem p_lconst {n : Fin 2} {z : Int} (hd : decode M.2.1 pc = .ok (.lconst n, 1)) (hz : (n : Nat) = z) (k : PW G M rm mc ms tk n0 K (pc + 1) ls (vl z :: st) kn cells slots h) : PW G M rm mc ms tk n0 K pc ls st kn cells slots h := by
  intro p e s m args below meth c H locs L ks ks0 C hS hR hW hl hol hos hon hle hn0
  have hb : r64 z := by have := n.isLt; unfold r64; omega
  refine lv_lconst C.1 C.2.1 (v := i64 z) hd (by rw [← hz]; rfl) ?_
  exact k p e s m args below meth c H locs L ks ks0 C hS hR hW hl hol (List.forall_mem_cons.mpr ⟨hb, hos⟩) hon hle hn0
theorem p_ldc {i : Nat} {v : Int32} {z : Int} (hd : decode M.2.1 pc = .ok (.ldc i, 2)) (hc : Cond.constant M.1.cls i v ∈ lw_good) (hz : v.toInt = z) (k : PW G M rm mc ms tk n0 K (pc + 2) ls (vi z :: st) kn cells slots h) : PW G M rm mc ms tk n0 K pc ls st kn cells slots h := by
  intro p e s m args below meth c H locs L ks ks0 C hS hR hW hl hol hos hon hle hn0
  subst hz
  refine lv_ldc C.1 C.2.1 C.2.2.2.2.1 (C.2.2.2.2.2.1 _ hc) hd ?_
  rw [← i32_of v]
  exact k p e s m args below meth c H locs L ks ks0 C hS hR hW hl hol (List.forall_mem_cons.mpr ⟨toInt_r32 _, hos⟩) hon hle hn0
theorem p_ldcw {i : Nat} {v : Int32} {z : Int} (hd : decode M.2.1 pc = .ok (.ldc_w i, 3)) (hc : Cond.constant M.1.cls i v ∈ lw_good) (hz : v.toInt = z) (k : PW G M rm mc ms tk n0 K (pc + 3) ls (vi z :: st) kn cells slots h) : PW G M rm mc ms tk n0 K pc ls st kn cells slots h := by
  intro p e s m args below meth c H locs L ks ks0 C hS hR hW hl hol hos hon hle hn0
  subst hz
  refine lv_ldcw C.1 C.2.1 C.2.2.2.2.1 (C.2.2.2.2.2.1 _ hc) hd ?_
  rw [← i32_of v]
  exact k p e s m args below meth c H locs L ks ks0 C hS hR hW hl hol (List.forall_mem_cons.mpr ⟨toInt_r32 _, hos⟩) hon hle hn0
theorem p_ldc2 {i : Nat} {v : Int64} {z : Int} (hd : decode M.2.1 pc = .ok (.ldc2_w i, 3)) (hc : Cond.constantLong M.1.cls i v ∈ lw_good) (hz : v.toInt = z) (k : PW G M rm mc ms tk n0 K (pc + 3) ls (vl z :: st) kn cells slots h) : PW G M rm mc ms tk n0 K pc ls st kn cells slots h := by
  intro p e s m args below meth c H locs L ks ks0 C hS hR hW hl hol hos hon hle hn0
  subst hz
  refine lv_ldc2 C.1 C.2.1 C.2.2.2.2.1 (C.2.2.2.2.2.1 _ hc) hd ?_
  rw [← i64_of v]
  exact k p e s m args below meth c H locs L ks ks0 C hS hR hW hl hol (List.forall_mem_cons.mpr ⟨toInt_r64 _, hos⟩) hon hle hn0
theorem p_icmp_lt {x y : Int} {off : Int} {tgt : Nat} {q : Prop} (hd : decode M.2.1 pc = .ok (.if_icmp .lt off, 3)) (ht : (pc : Int) + off = (tgt : Int)) (hq : x < y ↔ q) (kt : q → PW G M rm mc ms tk n0 K tgt ls st kn cells slots h) (kf : ¬ q → PW G M rm mc ms tk n0 K (pc + 3) ls st kn cells slots h) : PW G M rm mc ms tk n0 K pc ls (vi y :: vi x :: st) kn cells slots h := by
  intro p e s m args below meth c H locs L ks ks0 C hS hR hW hl hol hos hon hle hn0
  have hy := (List.forall_mem_cons.mp hos).1
  have hx := (List.forall_mem_cons.mp (List.forall_mem_cons.mp hos).2).1
  have hst := (List.forall_mem_cons.mp (List.forall_mem_cons.mp hos).2).2
  refine lv_icmp_lt C.1 C.2.1 hd ht (fun z => kt (hq.mp ((i32_lt hx hy).mp z)) p e s m args below meth c H locs L ks ks0 C hS hR hW hl hol hst hon hle hn0) (fun z => kf (fun w => z ((i32_lt hx hy).mpr (hq.mpr w))) p e s m args below meth c H locs L ks ks0 C hS hR hW hl hol hst hon hle hn0)
theorem p_if_lt {x : Int} {off : Int} {tgt : Nat} {q : Prop} (hd : decode M.2.1 pc = .ok (.ifCond .lt off, 3)) (ht : (pc : Int) + off = (tgt : Int)) (hq : x < 0 ↔ q) (kt : q → PW G M rm mc ms tk n0 K tgt ls st kn cells slots h) (kf : ¬ q → PW G M rm mc ms tk n0 K (pc + 3) ls st kn cells slots h) : PW G M rm mc ms tk n0 K pc ls (vi x :: st) kn cells slots h := by
  intro p e s m args below meth c H locs L ks ks0 C hS hR hW hl hol hos hon hle hn0
  have hx := (List.forall_mem_cons.mp hos).1
  have hst := (List.forall_mem_cons.mp hos).2
  have hy : r32 0 := by unfold r32; omega
  refine lv_if_lt C.1 C.2.1 hd ht (fun z => kt (hq.mp ((i32_lt hx hy).mp z)) p e s m args below meth c H locs L ks ks0 C hS hR hW hl hol hst hon hle hn0) (fun z => kf (fun w => z ((i32_lt hx hy).mpr (hq.mpr w))) p e s m args below meth c H locs L ks ks0 C hS hR hW hl hol hst hon hle hn0)
theorem p_icmp_ge {x y : Int} {off : Int} {tgt : Nat} {q : Prop} (hd : decode M.2.1 pc = .ok (.if_icmp .ge off, 3)) (ht : (pc : Int) + off = (tgt : Int)) (hq : x ≥ y ↔ q) (kt : q → PW G M rm mc ms tk n0 K tgt ls st kn cells slots h) (kf : ¬ q → PW G M rm mc ms tk n0 K (pc + 3) ls st kn cells slots h) : PW G M rm mc ms tk n0 K pc ls (vi y :: vi x :: st) kn cells slots h := by
  intro p e s m args below meth c H locs L ks ks0 C hS hR hW hl hol hos hon hle hn0
  have hy := (List.forall_mem_cons.mp hos).1
  have hx := (List.forall_mem_cons.mp (List.forall_mem_cons.mp hos).2).1
  have hst := (List.forall_mem_cons.mp (List.forall_mem_cons.mp hos).2).2
  refine lv_icmp_ge C.1 C.2.1 hd ht (fun z => kt (hq.mp ((i32_le hy hx).mp z)) p e s m args below meth c H locs L ks ks0 C hS hR hW hl hol hst hon hle hn0) (fun z => kf (fun w => z ((i32_le hy hx).mpr (hq.mpr w))) p e s m args below meth c H locs L ks ks0 C hS hR hW hl hol hst hon hle hn0)
theorem p_if_ge {x : Int} {off : Int} {tgt : Nat} {q : Prop} (hd : decode M.2.1 pc = .ok (.ifCond .ge off, 3)) (ht : (pc : Int) + off = (tgt : Int)) (hq : x ≥ 0 ↔ q) (kt : q → PW G M rm mc ms tk n0 K tgt ls st kn cells slots h) (kf : ¬ q → PW G M rm mc ms tk n0 K (pc + 3) ls st kn cells slots h) : PW G M rm mc ms tk n0 K pc ls (vi x :: st) kn cells slots h := by
  intro p e s m args below meth c H locs L ks ks0 C hS hR hW hl hol hos hon hle hn0
  have hx := (List.forall_mem_cons.mp hos).1
  have hst := (List.forall_mem_cons.mp hos).2
  have hy : r32 0 := by unfold r32; omega
  refine lv_if_ge C.1 C.2.1 hd ht (fun z => kt (hq.mp ((i32_le hy hx).mp z)) p e s m args below meth c H locs L ks ks0 C hS hR hW hl hol hst hon hle hn0) (fun z => kf (fun w => z ((i32_le hy hx).mpr (hq.mpr w))) p e s m args below meth c H locs L ks ks0 C hS hR hW hl hol hst hon hle hn0)
theorem p_icmp_gt {x y : Int} {off : Int} {tgt : Nat} {q : Prop} (hd : decode M.2.1 pc = .ok (.if_icmp .gt off, 3)) (ht : (pc : Int) + off = (tgt : Int)) (hq : x > y ↔ q) (kt : q → PW G M rm mc ms tk n0 K tgt ls st kn cells slots h) (kf : ¬ q → PW G M rm mc ms tk n0 K (pc + 3) ls st kn cells slots h) : PW G M rm mc ms tk n0 K pc ls (vi y :: vi x :: st) kn cells slots h := by
  intro p e s m args below meth c H locs L ks ks0 C hS hR hW hl hol hos hon hle hn0
  have hy := (List.forall_mem_cons.mp hos).1
  have hx := (List.forall_mem_cons.mp (List.forall_mem_cons.mp hos).2).1
  have hst := (List.forall_mem_cons.mp (List.forall_mem_cons.mp hos).2).2
  refine lv_icmp_gt C.1 C.2.1 hd ht (fun z => kt (hq.mp ((i32_lt hy hx).mp z)) p e s m args below meth c H locs L ks ks0 C hS hR hW hl hol hst hon hle hn0) (fun z => kf (fun w => z ((i32_lt hy hx).mpr (hq.mpr w))) p e s m args below meth c H locs L ks ks0 C hS hR hW hl hol hst hon hle hn0)
theorem p_if_gt {x : Int} {off : Int} {tgt : Nat} {q : Prop} (hd : decode M.2.1 pc = .ok (.ifCond .gt off, 3)) (ht : (pc : Int) + off = (tgt : Int)) (hq : x > 0 ↔ q) (kt : q → PW G M rm mc ms tk n0 K tgt ls st kn cells slots h) (kf : ¬ q → PW G M rm mc ms tk n0 K (pc + 3) ls st kn cells slots h) : PW G M rm mc ms tk n0 K pc ls (vi x :: st) kn cells slots h := by
  intro p e s m args below meth c H locs L ks ks0 C hS hR hW hl hol hos hon hle hn0
  have hx := (List.forall_mem_cons.mp hos).1
  have hst := (List.forall_mem_cons.mp hos).2
  have hy : r32 0 := by unfold r32; omega
  refine lv_if_gt C.1 C.2.1 hd ht (fun z => kt (hq.mp ((i32_lt hy hx).mp z)) p e s m args below meth c H locs L ks ks0 C hS hR hW hl hol hst hon hle hn0) (fun z => kf (fun w => z ((i32_lt hy hx).mpr (hq.mpr w))) p e s m args below meth c H locs L ks ks0 C hS hR hW hl hol hst hon hle hn0)
theorem p_icmp_le {x y : Int} {off : Int} {tgt : Nat} {q : Prop} (hd : decode M.2.1 pc = .ok (.if_icmp .le off, 3)) (ht : (pc : Int) + off = (tgt : Int)) (hq : x ≤ y ↔ q) (kt : q → PW G M rm mc ms tk n0 K tgt ls st kn cells slots h) (kf : ¬ q → PW G M rm mc ms tk n0 K (pc + 3) ls st kn cells slots h) : PW G M rm mc ms tk n0 K pc ls (vi y :: vi x :: st) kn cells slots h := by
  intro p e s m args below meth c H locs L ks ks0 C hS hR hW hl hol hos hon hle hn0
  have hy := (List.forall_mem_cons.mp hos).1
  have hx := (List.forall_mem_cons.mp (List.forall_mem_cons.mp hos).2).1
  have hst := (List.forall_mem_cons.mp (List.forall_mem_cons.mp hos).2).2
  refine lv_icmp_le C.1 C.2.1 hd ht (fun z => kt (hq.mp ((i32_le hx hy).mp z)) p e s m args below meth c H locs L ks ks0 C hS hR hW hl hol hst hon hle hn0) (fun z => kf (fun w => z ((i32_le hx hy).mpr (hq.mpr w))) p e s m args below meth c H locs L ks ks0 C hS hR hW hl hol hst hon hle hn0)
theorem p_if_le {x : Int} {off : Int} {tgt : Nat} {q : Prop} (hd : decode M.2.1 pc = .ok (.ifCond .le off, 3)) (ht : (pc : Int) + off = (tgt : Int)) (hq : x ≤ 0 ↔ q) (kt : q → PW G M rm mc ms tk n0 K tgt ls st kn cells slots h) (kf : ¬ q → PW G M rm mc ms tk n0 K (pc + 3) ls st kn cells slots h) : PW G M rm mc ms tk n0 K pc ls (vi x :: st) kn cells slots h := by
  intro p e s m args below meth c H locs L ks ks0 C hS hR hW hl hol hos hon hle hn0
  have hx := (List.forall_mem_cons.mp hos).1
  have hst := (List.forall_mem_cons.mp hos).2
  have hy : r32 0 := by unfold r32; omega
  refine lv_if_le C.1 C.2.1 hd ht (fun z => kt (hq.mp ((i32_le hx hy).mp z)) p e s m args below meth c H locs L ks ks0 C hS hR hW hl hol hst hon hle hn0) (fun z => kf (fun w => z ((i32_le hx hy).mpr (hq.mpr w))) p e s m args below meth c H locs L ks ks0 C hS hR hW hl hol hst hon hle hn0)
theorem p_icmp_eq {x y : Int} {off : Int} {tgt : Nat} {q : Prop} (hd : decode M.2.1 pc = .ok (.if_icmp .eq off, 3)) (ht : (pc : Int) + off = (tgt : Int)) (hq : x = y ↔ q) (kt : q → PW G M rm mc ms tk n0 K tgt ls st kn cells slots h) (kf : ¬ q → PW G M rm mc ms tk n0 K (pc + 3) ls st kn cells slots h) : PW G M rm mc ms tk n0 K pc ls (vi y :: vi x :: st) kn cells slots h := by
  intro p e s m args below meth c H locs L ks ks0 C hS hR hW hl hol hos hon hle hn0
  have hy := (List.forall_mem_cons.mp hos).1
  have hx := (List.forall_mem_cons.mp (List.forall_mem_cons.mp hos).2).1
  have hst := (List.forall_mem_cons.mp (List.forall_mem_cons.mp hos).2).2
  refine lv_icmp_eq C.1 C.2.1 hd ht (fun z => kt (hq.mp ((i32_inj hx hy).mp z)) p e s m args below meth c H locs L ks ks0 C hS hR hW hl hol hst hon hle hn0) (fun z => kf (fun w => z ((i32_inj hx hy).mpr (hq.mpr w))) p e s m args below meth c H locs L ks ks0 C hS hR hW hl hol hst hon hle hn0)
theorem p_if_eq {x : Int} {off : Int} {tgt : Nat} {q : Prop} (hd : decode M.2.1 pc = .ok (.ifCond .eq off, 3)) (ht : (pc : Int) + off = (tgt : Int)) (hq : x = 0 ↔ q) (kt : q → PW G M rm mc ms tk n0 K tgt ls st kn cells slots h) (kf : ¬ q → PW G M rm mc ms tk n0 K (pc + 3) ls st kn cells slots h) : PW G M rm mc ms tk n0 K pc ls (vi x :: st) kn cells slots h := by
  intro p e s m args below meth c H locs L ks ks0 C hS hR hW hl hol hos hon hle hn0
  have hx := (List.forall_mem_cons.mp hos).1
  have hst := (List.forall_mem_cons.mp hos).2
  have hy : r32 0 := by unfold r32; omega
  refine lv_if_eq C.1 C.2.1 hd ht (fun z => kt (hq.mp ((i32_inj hx hy).mp z)) p e s m args below meth c H locs L ks ks0 C hS hR hW hl hol hst hon hle hn0) (fun z => kf (fun w => z ((i32_inj hx hy).mpr (hq.mpr w))) p e s m args below meth c H locs L ks ks0 C hS hR hW hl hol hst hon hle hn0)
theorem p_icmp_ne {x y : Int} {off : Int} {tgt : Nat} {q : Prop} (hd : decode M.2.1 pc = .ok (.if_icmp .ne off, 3)) (ht : (pc : Int) + off = (tgt : Int)) (hq : x ≠ y ↔ q) (kt : q → PW G M rm mc ms tk n0 K tgt ls st kn cells slots h) (kf : ¬ q → PW G M rm mc ms tk n0 K (pc + 3) ls st kn cells slots h) : PW G M rm mc ms tk n0 K pc ls (vi y :: vi x :: st) kn cells slots h := by
  intro p e s m args below meth c H locs L ks ks0 C hS hR hW hl hol hos hon hle hn0
  have hy := (List.forall_mem_cons.mp hos).1
  have hx := (List.forall_mem_cons.mp (List.forall_mem_cons.mp hos).2).1
  have hst := (List.forall_mem_cons.mp (List.forall_mem_cons.mp hos).2).2
  refine lv_icmp_ne C.1 C.2.1 hd ht (fun z => kt (hq.mp ((not_congr (i32_inj hx hy)).mp z)) p e s m args below meth c H locs L ks ks0 C hS hR hW hl hol hst hon hle hn0) (fun z => kf (fun w => (hq.mpr w) ((i32_inj hx hy).mp z)) p e s m args below meth c H locs L ks ks0 C hS hR hW hl hol hst hon hle hn0)
theorem p_if_ne {x : Int} {off : Int} {tgt : Nat} {q : Prop} (hd : decode M.2.1 pc = .ok (.ifCond .ne off, 3)) (ht : (pc : Int) + off = (tgt : Int)) (hq : x ≠ 0 ↔ q) (kt : q → PW G M rm mc ms tk n0 K tgt ls st kn cells slots h) (kf : ¬ q → PW G M rm mc ms tk n0 K (pc + 3) ls st kn cells slots h) : PW G M rm mc ms tk n0 K pc ls (vi x :: st) kn cells slots h := by
  intro p e s m args below meth c H locs L ks ks0 C hS hR hW hl hol hos hon hle hn0
  have hx := (List.forall_mem_cons.mp hos).1
  have hst := (List.forall_mem_cons.mp hos).2
  have hy : r32 0 := by unfold r32; omega
  refine lv_if_ne C.1 C.2.1 hd ht (fun z => kt (hq.mp ((not_congr (i32_inj hx hy)).mp z)) p e s m args below meth c H locs L ks ks0 C hS hR hW hl hol hst hon hle hn0) (fun z => kf (fun w => (hq.mpr w) ((i32_inj hx hy).mp z)) p e s m args below meth c H locs L ks ks0 C hS hR hW hl hol hst hon hle hn0)
theorem p_goto {off : Int} {tgt : Nat} (hd : decode M.2.1 pc = .ok (.goto off, 3)) (ht : (pc : Int) + off = (tgt : Int)) (k : PW G M rm mc ms tk n0 K (tgt) ls (st) kn cells slots h) : PW G M rm mc ms tk n0 K pc ls st kn cells slots h := by
  intro p e s m args below meth c H locs L ks ks0 C hS hR hW hl hol hos hon hle hn0
  refine lv_goto C.1 C.2.1 hd ht ?_
  exact k p e s m args below meth c H locs L ks ks0 C hS hR hW hl hol hos hon hle hn0
theorem p_dup {v : PV} (hd : decode M.2.1 pc = .ok (.dup, 1)) (hv : ∀ x, v ≠ vl x) (k : PW G M rm mc ms tk n0 K (pc + 1) ls (v :: v :: st) kn cells slots h) : PW G M rm mc ms tk n0 K pc ls (v :: st) kn cells slots h := by
  intro p e s m args below meth c H locs L ks ks0 C hS hR hW hl hol hos hon hle hn0
  have hx := (List.forall_mem_cons.mp hos).1
  refine lv_dup C.1 C.2.1 (va := tv G.2.2.2.1 v) hd (tv_cat1 _ hv) ?_
  exact k p e s m args below meth c H locs L ks ks0 C hS hR hW hl hol (List.forall_mem_cons.mpr ⟨hx, hos⟩) hon hle hn0
theorem p_dup2 {v w : PV} (hd : decode M.2.1 pc = .ok (.dup2, 1)) (hv : ∀ x, v ≠ vl x) (hw : ∀ x, w ≠ vl x) (k : PW G M rm mc ms tk n0 K (pc + 1) ls (v :: w :: v :: w :: st) kn cells slots h) : PW G M rm mc ms tk n0 K pc ls (v :: w :: st) kn cells slots h := by
  intro p e s m args below meth c H locs L ks ks0 C hS hR hW hl hol hos hon hle hn0
  have hx := (List.forall_mem_cons.mp hos).1
  have hy := (List.forall_mem_cons.mp (List.forall_mem_cons.mp hos).2).1
  refine lv_dup2_11 C.1 C.2.1 (va := tv G.2.2.2.1 v) (vb := tv G.2.2.2.1 w) hd (tv_cat1 _ hv) (tv_cat1 _ hw) ?_
  exact k p e s m args below meth c H locs L ks ks0 C hS hR hW hl hol (List.forall_mem_cons.mpr ⟨hx, (List.forall_mem_cons.mpr ⟨hy, hos⟩)⟩) hon hle hn0
theorem p_pop2 {x : Int} (hd : decode M.2.1 pc = .ok (.pop2, 1)) (k : PW G M rm mc ms tk n0 K (pc + 1) ls (st) kn cells slots h) : PW G M rm mc ms tk n0 K pc ls (vl x :: st) kn cells slots h := by
  intro p e s m args below meth c H locs L ks ks0 C hS hR hW hl hol hos hon hle hn0
  have hst := (List.forall_mem_cons.mp hos).2
  refine lv_pop2_2 C.1 C.2.1 (va := tv G.2.2.2.1 (vl x)) hd rfl ?_
  exact k p e s m args below meth c H locs L ks ks0 C hS hR hW hl hol hst hon hle hn0
theorem p_lcmp {x y z : Int} (hd : decode M.2.1 pc = .ok (.lcmp, 1)) (hz : (if x < y then -1 else if x = y then 0 else 1) = z) (k : PW G M rm mc ms tk n0 K (pc + 1) ls (vi z :: st) kn cells slots h) : PW G M rm mc ms tk n0 K pc ls (vl y :: vl x :: st) kn cells slots h := by
  intro p e s m args below meth c H locs L ks ks0 C hS hR hW hl hol hos hon hle hn0
  have hy := (List.forall_mem_cons.mp hos).1
  have hx := (List.forall_mem_cons.mp (List.forall_mem_cons.mp hos).2).1
  have hst := (List.forall_mem_cons.mp (List.forall_mem_cons.mp hos).2).2
  have hb : r32 z := by subst hz; unfold r32; (repeat' split) <;> omega
  have e0 : lg_cmp (i64 x) (i64 y) = i32 z := by
    unfold lg_cmp
    subst hz
    simp only [gt_iff_lt, i64_lt hy hx, i64_inj hx hy]
    by_cases h1 : x < y
    · rw [if_pos h1, if_neg (by omega), if_neg (by omega)]; rfl
    · by_cases h2 : x = y
      · rw [if_neg h1, if_pos h2, if_neg (by omega), if_pos h2]; rfl
      · rw [if_neg h1, if_pos (show y < x by omega), if_neg h2]; rfl
  refine W.lcmp C.1 C.2.1 hd ?_
  rw [e0]
  exact k p e s m args below meth c H locs L ks ks0 C hS hR hW hl hol (List.forall_mem_cons.mpr ⟨hb, hst⟩) hon hle hn0
end PR1
end
section
/-! rules of PW, 2: locals, null, switches, answers -/
def isL (v : PV) : Bool := match v with
  | .inr (.inl _) => true
  | _ => false
def sto (i : Nat) (v : PV) (ls : List (Nat × PV)) : List (Nat × PV) := (i, v) :: ls.filter (fun q => !(q.1 == i) && !(q.1 + 1 == i && isL q.2))
def stoL (i : Nat) (x : Int) (ls : List (Nat × PV)) : List (Nat × PV) := (i, vl x) :: ls.filter (fun q => !(q.1 == i) && (!(q.1 == i + 1) && !(q.1 + 1 == i && isL q.2)))
theorem tv_cat2 (b : Nat) (v : PV) : ((tv b v).category == 2) = isL v := by
  match v with
  | .inl x => rfl
  | .inr (.inl x) => rfl
  | .inr (.inr (t, a, n)) =>
    show ((if t = 200 then Value.ref a.toNat else rv b a).category == 2) = false
    split
    · rfl
    · unfold rv; split <;> rfl
theorem sto_map (b i : Nat) (v : PV) (ls : List (Nat × PV)) : (i, tv b v) :: (ls.map fun q => (q.1, tv b q.2)).filter (fun q => !(q.1 == i) && !(q.1 + 1 == i && q.2.category == 2)) = (sto i v ls).map fun q => (q.1, tv b q.2) := by
  unfold sto
  rw [List.map_cons, List.filter_map]
  congr 3
  funext q
  show (!(q.1 == i) && !(q.1 + 1 == i && (tv b q.2).category == 2)) = _
  rw [tv_cat2]
theorem stoL_map (b i : Nat) (x : Int) (ls : List (Nat × PV)) : (i, tv b (vl x)) :: (ls.map fun q => (q.1, tv b q.2)).filter (fun q => !(q.1 == i) && (!(q.1 == i + 1) && !(q.1 + 1 == i && q.2.category == 2))) = (stoL i x ls).map fun q => (q.1, tv b q.2) := by
  unfold stoL
  rw [List.map_cons, List.filter_map]
  congr 3
  funext q
  show (!(q.1 == i) && (!(q.1 == i + 1) && !(q.1 + 1 == i && (tv b q.2).category == 2))) = _
  rw [tv_cat2]
theorem sto_ok {G : Gx} {ks : List Kd} {i : Nat} {v : PV} {ls : List (Nat × PV)} (hv : okv G ks v) (h : ∀ q ∈ ls, okv G ks q.2) : ∀ q ∈ sto i v ls, okv G ks q.2 := by
  intro q hq
  rcases List.mem_cons.mp hq with e | e
  · rw [e]; exact hv
  · exact h q (List.mem_filter.mp e).1
theorem stoL_ok {G : Gx} {ks : List Kd} {i : Nat} {x : Int} {ls : List (Nat × PV)} (hv : r64 x) (h : ∀ q ∈ ls, okv G ks q.2) : ∀ q ∈ stoL i x ls, okv G ks q.2 := by
  intro q hq
  rcases List.mem_cons.mp hq with e | e
  · rw [e]; exact hv
  · exact h q (List.mem_filter.mp e).1
theorem ls_at {b j i : Nat} {v : PV} {ls : List (Nat × PV)} {L : Array Slot} {nL : Nat} (hl : lv_has L nL (ls.map fun q => (q.1, tv b q.2))) (hj : ls[j]? = some (i, v)) : L[i]? = some (.val (tv b v)) :=
  lv_at hl j (by rw [List.getElem?_map, hj]; rfl)
theorem ref_cases (b t : Nat) (a n : Int) : tv b (vr t a n) = .null ∨ ∃ y, tv b (vr t a n) = .ref y := by
  show (if t = 200 then Value.ref a.toNat else rv b a) = .null ∨ ∃ y, (if t = 200 then Value.ref a.toNat else rv b a) = .ref y
  split
  · exact Or.inr ⟨_, rfl⟩
  · unfold rv
    split
    · exact Or.inl rfl
    · exact Or.inr ⟨_, rfl⟩
section PR2
variable {G : Gx} {M : MD} {rm : Room} {mc ms : Nat} {tk : List PV} {n0 : Int} {K : Int → Hh → Prop} {pc : Nat} {ls : List (Nat × PV)} {st kn : List PV} {cells slots : Nat} {h : Hh}
theorem p_iload_n {k0 : Fin 4} {i : Nat} {x : Int} (hd : decode M.2.1 pc = .ok (.iload_n k0, 1)) (hi : (k0 : Nat) = i) (j : Nat) (hj : ls[j]? = some (i, vi x)) (k : PW G M rm mc ms tk n0 K (pc + 1) ls (vi x :: st) kn cells slots h) : PW G M rm mc ms tk n0 K pc ls st kn cells slots h := by
  intro p e s m args below meth c H locs L ks ks0 C hS hR hW hl hol hos hon hle hn0
  refine lv_iload_n C.1 C.2.1 hd hi (ls_at hl hj) ?_
  exact k p e s m args below meth c H locs L ks ks0 C hS hR hW hl hol (List.forall_mem_cons.mpr ⟨hol (i, vi x) (List.mem_of_getElem? hj), hos⟩) hon hle hn0
theorem p_iload {i : Nat} {x : Int} (hd : decode M.2.1 pc = .ok (.iload i, 2)) (j : Nat) (hj : ls[j]? = some (i, vi x)) (k : PW G M rm mc ms tk n0 K (pc + 2) ls (vi x :: st) kn cells slots h) : PW G M rm mc ms tk n0 K pc ls st kn cells slots h := by
  intro p e s m args below meth c H locs L ks ks0 C hS hR hW hl hol hos hon hle hn0
  refine lv_iload C.1 C.2.1 hd (ls_at hl hj) ?_
  exact k p e s m args below meth c H locs L ks ks0 C hS hR hW hl hol (List.forall_mem_cons.mpr ⟨hol (i, vi x) (List.mem_of_getElem? hj), hos⟩) hon hle hn0
theorem p_lload_n {k0 : Fin 4} {i : Nat} {x : Int} (hd : decode M.2.1 pc = .ok (.lload_n k0, 1)) (hi : (k0 : Nat) = i) (j : Nat) (hj : ls[j]? = some (i, vl x)) (k : PW G M rm mc ms tk n0 K (pc + 1) ls (vl x :: st) kn cells slots h) : PW G M rm mc ms tk n0 K pc ls st kn cells slots h := by
  intro p e s m args below meth c H locs L ks ks0 C hS hR hW hl hol hos hon hle hn0
  refine lv_lload_n C.1 C.2.1 hd hi (ls_at hl hj) ?_
  exact k p e s m args below meth c H locs L ks ks0 C hS hR hW hl hol (List.forall_mem_cons.mpr ⟨hol (i, vl x) (List.mem_of_getElem? hj), hos⟩) hon hle hn0
theorem p_lload {i : Nat} {x : Int} (hd : decode M.2.1 pc = .ok (.lload i, 2)) (j : Nat) (hj : ls[j]? = some (i, vl x)) (k : PW G M rm mc ms tk n0 K (pc + 2) ls (vl x :: st) kn cells slots h) : PW G M rm mc ms tk n0 K pc ls st kn cells slots h := by
  intro p e s m args below meth c H locs L ks ks0 C hS hR hW hl hol hos hon hle hn0
  refine lv_lload C.1 C.2.1 hd (ls_at hl hj) ?_
  exact k p e s m args below meth c H locs L ks ks0 C hS hR hW hl hol (List.forall_mem_cons.mpr ⟨hol (i, vl x) (List.mem_of_getElem? hj), hos⟩) hon hle hn0
theorem p_aload_n {k0 : Fin 4} {i t : Nat} {a n : Int} (hd : decode M.2.1 pc = .ok (.aload_n k0, 1)) (hi : (k0 : Nat) = i) (j : Nat) (hj : ls[j]? = some (i, vr t a n)) (k : PW G M rm mc ms tk n0 K (pc + 1) ls (vr t a n :: st) kn cells slots h) : PW G M rm mc ms tk n0 K pc ls st kn cells slots h := by
  intro p e s m args below meth c H locs L ks ks0 C hS hR hW hl hol hos hon hle hn0
  have kk := k p e s m args below meth c H locs L ks ks0 C hS hR hW hl hol (List.forall_mem_cons.mpr ⟨hol (i, vr t a n) (List.mem_of_getElem? hj), hos⟩) hon hle hn0
  rw [List.map_cons] at kk
  rcases ref_cases G.2.2.2.1 t a n with e1 | ⟨y, e1⟩
  · rw [e1] at kk
    exact lv_aload_nN C.1 C.2.1 hd hi (by rw [← e1]; exact ls_at hl hj) kk
  · rw [e1] at kk
    exact lv_aload_n C.1 C.2.1 hd hi (by rw [← e1]; exact ls_at hl hj) kk
theorem p_aload {i t : Nat} {a n : Int} (hd : decode M.2.1 pc = .ok (.aload i, 2)) (j : Nat) (hj : ls[j]? = some (i, vr t a n)) (k : PW G M rm mc ms tk n0 K (pc + 2) ls (vr t a n :: st) kn cells slots h) : PW G M rm mc ms tk n0 K pc ls st kn cells slots h := by
  intro p e s m args below meth c H locs L ks ks0 C hS hR hW hl hol hos hon hle hn0
  have kk := k p e s m args below meth c H locs L ks ks0 C hS hR hW hl hol (List.forall_mem_cons.mpr ⟨hol (i, vr t a n) (List.mem_of_getElem? hj), hos⟩) hon hle hn0
  rw [List.map_cons] at kk
  rcases ref_cases G.2.2.2.1 t a n with e1 | ⟨y, e1⟩
  · rw [e1] at kk
    exact lv_aloadN C.1 C.2.1 hd (by rw [← e1]; exact ls_at hl hj) kk
  · rw [e1] at kk
    exact lv_aload C.1 C.2.1 hd (by rw [← e1]; exact ls_at hl hj) kk
theorem p_istore_n {ls' : List (Nat × PV)} {k0 : Fin 4} {i : Nat} {x : Int} (hd : decode M.2.1 pc = .ok (.istore_n k0, 1)) (hi : (k0 : Nat) = i) (hn : i < M.2.2.1) (hl' : sto i (vi x) ls = ls') (k : PW G M rm mc ms tk n0 K (pc + 1) ls' st kn cells slots h) : PW G M rm mc ms tk n0 K pc ls (vi x :: st) kn cells slots h := by
  intro p e s m args below meth c H locs L ks ks0 C hS hR hW hl hol hos hon hle hn0
  subst hl'
  have hx := (List.forall_mem_cons.mp hos).1
  have ht := (List.forall_mem_cons.mp hos).2
  refine lv_istore_n C.1 C.2.1 hd hi hl hn (sto_map G.2.2.2.1 i (vi x) ls) (fun L' hl' => ?_)
  exact k p e s m args below meth c H locs L' ks ks0 C hS hR hW hl' (sto_ok hx hol) ht hon hle hn0
theorem p_istore {ls' : List (Nat × PV)} {i : Nat} {x : Int} (hd : decode M.2.1 pc = .ok (.istore i, 2)) (hn : i < M.2.2.1) (hl' : sto i (vi x) ls = ls') (k : PW G M rm mc ms tk n0 K (pc + 2) ls' st kn cells slots h) : PW G M rm mc ms tk n0 K pc ls (vi x :: st) kn cells slots h := by
  intro p e s m args below meth c H locs L ks ks0 C hS hR hW hl hol hos hon hle hn0
  subst hl'
  have hx := (List.forall_mem_cons.mp hos).1
  have ht := (List.forall_mem_cons.mp hos).2
  refine lv_istore C.1 C.2.1 hd hl hn (sto_map G.2.2.2.1 i (vi x) ls) (fun L' hl' => ?_)
  exact k p e s m args below meth c H locs L' ks ks0 C hS hR hW hl' (sto_ok hx hol) ht hon hle hn0
theorem p_lstore_n {ls' : List (Nat × PV)} {k0 : Fin 4} {i : Nat} {x : Int} (hd : decode M.2.1 pc = .ok (.lstore_n k0, 1)) (hi : (k0 : Nat) = i) (hn : i + 1 < M.2.2.1) (hl' : stoL i x ls = ls') (k : PW G M rm mc ms tk n0 K (pc + 1) ls' st kn cells slots h) : PW G M rm mc ms tk n0 K pc ls (vl x :: st) kn cells slots h := by
  intro p e s m args below meth c H locs L ks ks0 C hS hR hW hl hol hos hon hle hn0
  subst hl'
  have hx := (List.forall_mem_cons.mp hos).1
  have ht := (List.forall_mem_cons.mp hos).2
  refine lv_lstore_n C.1 C.2.1 hd hi hl hn (stoL_map G.2.2.2.1 i x ls) (fun L' hl' => ?_)
  exact k p e s m args below meth c H locs L' ks ks0 C hS hR hW hl' (stoL_ok hx hol) ht hon hle hn0
theorem p_lstore {ls' : List (Nat × PV)} {i : Nat} {x : Int} (hd : decode M.2.1 pc = .ok (.lstore i, 2)) (hn : i + 1 < M.2.2.1) (hl' : stoL i x ls = ls') (k : PW G M rm mc ms tk n0 K (pc + 2) ls' st kn cells slots h) : PW G M rm mc ms tk n0 K pc ls (vl x :: st) kn cells slots h := by
  intro p e s m args below meth c H locs L ks ks0 C hS hR hW hl hol hos hon hle hn0
  subst hl'
  have hx := (List.forall_mem_cons.mp hos).1
  have ht := (List.forall_mem_cons.mp hos).2
  refine lv_lstore C.1 C.2.1 hd hl hn (stoL_map G.2.2.2.1 i x ls) (fun L' hl' => ?_)
  exact k p e s m args below meth c H locs L' ks ks0 C hS hR hW hl' (stoL_ok hx hol) ht hon hle hn0
theorem p_astore_n {ls' : List (Nat × PV)} {k0 : Fin 4} {i t : Nat} {a n : Int} (hd : decode M.2.1 pc = .ok (.astore_n k0, 1)) (hi : (k0 : Nat) = i) (hn : i < M.2.2.1) (hl' : sto i (vr t a n) ls = ls') (k : PW G M rm mc ms tk n0 K (pc + 1) ls' st kn cells slots h) : PW G M rm mc ms tk n0 K pc ls (vr t a n :: st) kn cells slots h := by
  intro p e s m args below meth c H locs L ks ks0 C hS hR hW hl hol hos hon hle hn0
  subst hl'
  have hx := (List.forall_mem_cons.mp hos).1
  have ht := (List.forall_mem_cons.mp hos).2
  have hm := sto_map G.2.2.2.1 i (vr t a n) ls
  rw [List.map_cons]
  rcases ref_cases G.2.2.2.1 t a n with e1 | ⟨y, e1⟩
  · rw [e1] at hm ⊢
    refine lv_astore_nN C.1 C.2.1 hd hi hl hn hm (fun L' hl' => ?_)
    exact k p e s m args below meth c H locs L' ks ks0 C hS hR hW hl' (sto_ok hx hol) ht hon hle hn0
  · rw [e1] at hm ⊢
    refine lv_astore_n C.1 C.2.1 hd hi hl hn hm (fun L' hl' => ?_)
    exact k p e s m args below meth c H locs L' ks ks0 C hS hR hW hl' (sto_ok hx hol) ht hon hle hn0
theorem p_astore {ls' : List (Nat × PV)} {i t : Nat} {a n : Int} (hd : decode M.2.1 pc = .ok (.astore i, 2)) (hn : i < M.2.2.1) (hl' : sto i (vr t a n) ls = ls') (k : PW G M rm mc ms tk n0 K (pc + 2) ls' st kn cells slots h) : PW G M rm mc ms tk n0 K pc ls (vr t a n :: st) kn cells slots h := by
  intro p e s m args below meth c H locs L ks ks0 C hS hR hW hl hol hos hon hle hn0
  subst hl'
  have hx := (List.forall_mem_cons.mp hos).1
  have ht := (List.forall_mem_cons.mp hos).2
  have hm := sto_map G.2.2.2.1 i (vr t a n) ls
  rw [List.map_cons]
  rcases ref_cases G.2.2.2.1 t a n with e1 | ⟨y, e1⟩
  · rw [e1] at hm ⊢
    refine lv_astoreN C.1 C.2.1 hd hl hn hm (fun L' hl' => ?_)
    exact k p e s m args below meth c H locs L' ks ks0 C hS hR hW hl' (sto_ok hx hol) ht hon hle hn0
  · rw [e1] at hm ⊢
    refine lv_astore C.1 C.2.1 hd hl hn hm (fun L' hl' => ?_)
    exact k p e s m args below meth c H locs L' ks ks0 C hS hR hW hl' (sto_ok hx hol) ht hon hle hn0
theorem p_iinc {ls' : List (Nat × PV)} {i : Nat} {n x : Int} (hd : decode M.2.1 pc = .ok (.iinc i n, 3)) (j : Nat) (hj : ls[j]? = some (i, vi x)) (hn : i < M.2.2.1) (hl' : sto i (vi (w32 (x + n))) ls = ls') (k : PW G M rm mc ms tk n0 K (pc + 3) ls' st kn cells slots h) : PW G M rm mc ms tk n0 K pc ls st kn cells slots h := by
  intro p e s m args below meth c H locs L ks ks0 C hS hR hW hl hol hos hon hle hn0
  subst hl'
  refine lv_iinc C.1 C.2.1 (v := i32 (w32 (x + n))) (x := i32 x) (k := j) hd hl (by rw [List.getElem?_map, hj]; rfl) (i32_add x n) hn (sto_map G.2.2.2.1 i (vi (w32 (x + n))) ls) (fun L' hl' => ?_)
  exact k p e s m args below meth c H locs L' ks ks0 C hS hR hW hl' (sto_ok (v := vi (w32 (x + n))) (w32_r _) hol) hos hon hle hn0
theorem p_null {t : Nat} (hd : decode M.2.1 pc = .ok (.aconst_null, 1)) (ht : t ≠ 200) (k : PW G M rm mc ms tk n0 K (pc + 1) ls (vr t (-1) 0 :: st) kn cells slots h) : PW G M rm mc ms tk n0 K pc ls st kn cells slots h := by
  intro p e s m args below meth c H locs L ks ks0 C hS hR hW hl hol hos hon hle hn0
  refine lv_null C.1 C.2.1 hd ?_
  have hv : okv G ks (vr t (-1) 0) := by show (if t = 200 then _ else _); rw [if_neg ht]; exact Or.inl rfl
  have kk := k p e s m args below meth c H locs L ks ks0 C hS hR hW hl hol (List.forall_mem_cons.mpr ⟨hv, hos⟩) hon hle hn0
  rw [List.map_cons, show tv G.2.2.2.1 (vr t (-1) 0) = .null by show (if t = 200 then _ else _) = _; rw [if_neg ht]; rfl] at kk
  exact kk
theorem p_ifnull {t : Nat} {a n : Int} {off : Int} {tgt : Nat} (hd : decode M.2.1 pc = .ok (.ifnull off, 3)) (ht : (pc : Int) + off = (tgt : Int)) (h200 : t ≠ 200) (kt : a = -1 → PW G M rm mc ms tk n0 K tgt ls st kn cells slots h) (kf : ¬ a = -1 → PW G M rm mc ms tk n0 K (pc + 3) ls st kn cells slots h) : PW G M rm mc ms tk n0 K pc ls (vr t a n :: st) kn cells slots h := by
  intro p e s m args below meth c H locs L ks ks0 C hS hR hW hl hol hos hon hle hn0
  have hx := (List.forall_mem_cons.mp hos).1
  have hst := (List.forall_mem_cons.mp hos).2
  have hx : (if t = 200 then _ else _) := hx
  rw [if_neg h200] at hx
  rw [List.map_cons]
  have e1 : tv G.2.2.2.1 (vr t a n) = rv G.2.2.2.1 a := by show (if t = 200 then _ else _) = _; rw [if_neg h200]
  rw [e1]
  unfold rv
  by_cases ha : a = -1
  · rw [if_pos (by omega)]
    refine lv_ifnullN C.1 C.2.1 hd ht ?_
    exact kt (by omega) p e s m args below meth c H locs L ks ks0 C hS hR hW hl hol hst hon hle hn0
  · have h0 : 0 ≤ a := by rcases hx with hx | hx
                          · exact absurd hx ha
                          · exact hx.1
    rw [if_neg (by omega)]
    refine lv_ifnull C.1 C.2.1 hd ?_
    exact kf (by omega) p e s m args below meth c H locs L ks ks0 C hS hR hW hl hol hst hon hle hn0
theorem p_ifnonnull {t : Nat} {a n : Int} {off : Int} {tgt : Nat} (hd : decode M.2.1 pc = .ok (.ifnonnull off, 3)) (ht : (pc : Int) + off = (tgt : Int)) (h200 : t ≠ 200) (kt : a ≠ -1 → PW G M rm mc ms tk n0 K tgt ls st kn cells slots h) (kf : ¬ a ≠ -1 → PW G M rm mc ms tk n0 K (pc + 3) ls st kn cells slots h) : PW G M rm mc ms tk n0 K pc ls (vr t a n :: st) kn cells slots h := by
  intro p e s m args below meth c H locs L ks ks0 C hS hR hW hl hol hos hon hle hn0
  have hx := (List.forall_mem_cons.mp hos).1
  have hst := (List.forall_mem_cons.mp hos).2
  have hx : (if t = 200 then _ else _) := hx
  rw [if_neg h200] at hx
  rw [List.map_cons]
  have e1 : tv G.2.2.2.1 (vr t a n) = rv G.2.2.2.1 a := by show (if t = 200 then _ else _) = _; rw [if_neg h200]
  rw [e1]
  unfold rv
  by_cases ha : a = -1
  · rw [if_pos (by omega)]
    refine lv_ifnonnullN C.1 C.2.1 hd ?_
    exact kf (by omega) p e s m args below meth c H locs L ks ks0 C hS hR hW hl hol hst hon hle hn0
  · have h0 : 0 ≤ a := by rcases hx with hx | hx
                          · exact absurd hx ha
                          · exact hx.1
    rw [if_neg (by omega)]
    refine lv_ifnonnull C.1 C.2.1 hd ht ?_
    exact kt (by omega) p e s m args below meth c H locs L ks ks0 C hS hR hW hl hol hst hon hle hn0
theorem p_tsIn {dflt lo hi : Int} {offs : Array Int} {len : Nat} {x off : Int} {tgt : Nat} (hd : decode M.2.1 pc = .ok (.tableswitch dflt lo hi offs, len)) (h1 : lo ≤ x) (h2 : x ≤ hi) (ho : offs[(x - lo).toNat]? = some off) (ht : (pc : Int) + off = (tgt : Int)) (k : PW G M rm mc ms tk n0 K tgt ls st kn cells slots h) : PW G M rm mc ms tk n0 K pc ls (vi x :: st) kn cells slots h := by
  intro p e s m args below meth c H locs L ks ks0 C hS hR hW hl hol hos hon hle hn0
  have hx := (List.forall_mem_cons.mp hos).1
  have hst := (List.forall_mem_cons.mp hos).2
  have e1 : (i32 x).toInt = x := i32_toInt hx
  refine lv_tableIn C.1 C.2.1 (x := i32 x) hd (by rw [e1]; omega) (by rw [e1]; omega) (by rw [e1]; exact ho) ht ?_
  exact k p e s m args below meth c H locs L ks ks0 C hS hR hW hl hol hst hon hle hn0
theorem p_tsOut {dflt lo hi : Int} {offs : Array Int} {len : Nat} {x : Int} {tgt : Nat} (hd : decode M.2.1 pc = .ok (.tableswitch dflt lo hi offs, len)) (h1 : x < lo ∨ hi < x) (ht : (pc : Int) + dflt = (tgt : Int)) (k : PW G M rm mc ms tk n0 K tgt ls st kn cells slots h) : PW G M rm mc ms tk n0 K pc ls (vi x :: st) kn cells slots h := by
  intro p e s m args below meth c H locs L ks ks0 C hS hR hW hl hol hos hon hle hn0
  have hx := (List.forall_mem_cons.mp hos).1
  have hst := (List.forall_mem_cons.mp hos).2
  have e1 : (i32 x).toInt = x := i32_toInt hx
  refine lv_tableOut C.1 C.2.1 (x := i32 x) hd (by rw [e1]; exact h1) ht ?_
  exact k p e s m args below meth c H locs L ks ks0 C hS hR hW hl hol hst hon hle hn0
theorem p_sub {ls' : List (Nat × PV)} (is : List Nat) (hs : is.filterMap (fun i => ls[i]?) = ls') (k : PW G M rm mc ms tk n0 K pc ls' st kn cells slots h) : PW G M rm mc ms tk n0 K pc ls st kn cells slots h := by
  intro p e s m args below meth c H locs L ks ks0 C hS hR hW hl hol hos hon hle hn0
  subst hs
  have hl2 : lv_has L M.2.2.1 ((is.filterMap (fun i => ls[i]?)).map fun q => (q.1, tv G.2.2.2.1 q.2)) := by
    refine lv_sub hl is ?_
    unfold lv_pick
    rw [List.map_filterMap]
    congr 1
    funext i
    rw [List.getElem?_map]
  exact k p e s m args below meth c H locs L ks ks0 C hS hR hW hl2 (fun q hq => by obtain ⟨i, -, hi⟩ := List.mem_filterMap.mp hq; exact hol q (List.mem_of_getElem? hi)) hos hon hle hn0
theorem p_iret {x : Int} (hd : decode M.2.1 pc = .ok (.ireturn, 1)) (hr : M.2.2.2 = some .int) (hc : cells ≤ mc) (hs : slots ≤ ms) (htk : ∀ v ∈ tk, v ∈ kn) (hk : K x h) : PW G M rm mc ms tk n0 K pc ls [vi x] kn cells slots h := by
  intro p e s m args below meth c H locs L ks ks0 C hS hR hW hl hol hos hon hle hn0
  have hx := (List.forall_mem_cons.mp hos).1
  refine W.widen hc hs ?_
  refine W.iret C.1 C.2.1 (C.2.2.1.trans hr) (fun t ht hWm => ?_) hS.2.2 hd C.2.2.2.2.2.2.1
  refine ⟨⟨x, h, ks, ?_, hk, hle, hW, ?_, by rw [ht]; exact hR, fun v hv => hon v (htk v hv)⟩, hS.F ht⟩
  · rw [hr]; rfl
  · rw [hr]; exact hx
theorem p_zret {x : Int} (hd : decode M.2.1 pc = .ok (.ireturn, 1)) (hr : M.2.2.2 = some .boolean) (hc : cells ≤ mc) (hs : slots ≤ ms) (htk : ∀ v ∈ tk, v ∈ kn) (hz : x = 0 ∨ x = 1) (hk : K x h) : PW G M rm mc ms tk n0 K pc ls [vi x] kn cells slots h := by
  intro p e s m args below meth c H locs L ks ks0 C hS hR hW hl hol hos hon hle hn0
  have hx := (List.forall_mem_cons.mp hos).1
  refine W.widen hc hs ?_
  refine W.zret C.1 C.2.1 (C.2.2.1.trans hr) (by rcases hz with rfl | rfl <;> decide) (fun t ht hWm => ?_) hS.2.2 hd C.2.2.2.2.2.2.1
  refine ⟨⟨x, h, ks, ?_, hk, hle, hW, ?_, by rw [ht]; exact hR, fun v hv => hon v (htk v hv)⟩, hS.F ht⟩
  · rw [hr]; rfl
  · rw [hr]; exact hx
theorem p_lret {x : Int} (hd : decode M.2.1 pc = .ok (.lreturn, 1)) (hr : M.2.2.2 = some .long) (hc : cells ≤ mc) (hs : slots ≤ ms) (htk : ∀ v ∈ tk, v ∈ kn) (hk : K x h) : PW G M rm mc ms tk n0 K pc ls [vl x] kn cells slots h := by
  intro p e s m args below meth c H locs L ks ks0 C hS hR hW hl hol hos hon hle hn0
  have hx := (List.forall_mem_cons.mp hos).1
  refine W.widen hc hs ?_
  refine W.lret C.1 C.2.1 (C.2.2.1.trans hr) (fun t ht hWm => ?_) hS.2.2 hd C.2.2.2.2.2.2.1
  refine ⟨⟨x, h, ks, ?_, hk, hle, hW, ?_, by rw [ht]; exact hR, fun v hv => hon v (htk v hv)⟩, hS.F ht⟩
  · rw [hr]; rfl
  · rw [hr]; exact hx
theorem p_vret (hd : decode M.2.1 pc = .ok (.return_, 1)) (hr : M.2.2.2 = none) (hc : cells ≤ mc) (hs : slots ≤ ms) (htk : ∀ v ∈ tk, v ∈ kn) (hk : K 0 h) : PW G M rm mc ms tk n0 K pc ls [] kn cells slots h := by
  intro p e s m args below meth c H locs L ks ks0 C hS hR hW hl hol hos hon hle hn0
  refine W.widen hc hs ?_
  refine W.vret C.1 C.2.1 (C.2.2.1.trans hr) (fun t ht hWm => ?_) hS.2.2 hd C.2.2.2.2.2.2.1
  refine ⟨⟨0, h, ks, ?_, hk, hle, hW, ?_, by rw [ht]; exact hR, fun v hv => hon v (htk v hv)⟩, hS.F ht⟩
  · rw [hr]; rfl
  · rw [hr]; exact trivial
theorem p_aret {a : Int} {Cn : String} (hd : decode M.2.1 pc = .ok (.areturn, 1)) (hr : M.2.2.2 = some (.object Cn)) (ht50 : ccode Cn < 50) (hc : cells ≤ mc) (hs : slots ≤ ms) (htk : ∀ v ∈ tk, v ∈ kn) (hk : K a h) : PW G M rm mc ms tk n0 K pc ls [vr (ccode Cn) a 0] kn cells slots h := by
  intro p e s m args below meth c H locs L ks ks0 C hS hR hW hl hol hos hon hle hn0
  have hx := (List.forall_mem_cons.mp hos).1
  have hx : (if ccode Cn = 200 then _ else _) := hx
  rw [if_neg (by omega)] at hx
  have e1 : tv G.2.2.2.1 (vr (ccode Cn) a 0) = rv G.2.2.2.1 a := by show (if ccode Cn = 200 then _ else _) = _; rw [if_neg (by omega)]
  rw [List.map_cons, e1]
  refine W.widen hc hs ?_
  refine W.aret C.1 C.2.1 (C.2.2.1.trans hr) (Or.inl ⟨_, rfl⟩) (by unfold rv; split; exact Or.inl rfl; exact Or.inr ⟨_, rfl⟩) (fun t ht hWm => ?_) hS.2.2 hd C.2.2.2.2.2.2.1
  refine ⟨⟨a, h, ks, ?_, hk, hle, hW, ?_, by rw [ht]; exact hR, fun v hv => hon v (htk v hv)⟩, hS.F ht⟩
  · rw [hr]; rfl
  · rw [hr]
    rcases hx with hx | ⟨h0, q, h1, h2, h3⟩
    · exact Or.inl hx
    · obtain ⟨q1, q2⟩ := q
      dsimp only at h2 h3
      have e2 : q1 = ccode Cn := by omega
      have e3 : q2 = 0 := by omega
      subst e2; subst e3
      exact Or.inr ⟨h0, h1⟩
end PR2
end
section
/-! reading and writing pure heaps against the machine's -/
def up (h : Hh) (a k x : Int) : Hh := fun p j => if p = a ∧ j = k then x else h p j
theorem up_ne {h : Hh} {a k x p : Int} (hp : p ≠ a) : up h a k x p = h p := by
  funext j
  show (if p = a ∧ j = k then x else h p j) = h p j
  rw [if_neg (fun q => hp q.1)]
theorem up_at {h : Hh} {a k x j : Int} : up h a k x a j = if j = k then x else h a j := by
  show (if a = a ∧ j = k then x else h a j) = _
  by_cases e : j = k
  · rw [if_pos ⟨rfl, e⟩, if_pos e]
  · rw [if_neg (fun q => e q.2), if_neg e]
theorem toNat_a {a : Int} (h : 0 ≤ a) : ((a.toNat : Nat) : Int) = a := Int.toNat_of_nonneg h
theorem ks_lt {ks : List Kd} {i : Nat} {q : Kd} (h : ks[i]? = some q) : i < ks.length := (List.getElem?_eq_some_iff.mp h).1
/-- another content of one cell -/
theorem RepH.set {G : Gx} {ks : List Kd} {h h' : Hh} {H H' : Heap} {i : Nat} {q : Kd} (hR : RepH G ks h H) (hq : ks[i]? = some q) (h1 : va_at G.2.1 vwCl (G.2.2.2.1 + i, ec G (h' i) q) H') (hz : H'.size = H.size) (ho : ∀ x, x ≠ G.2.2.2.1 + i → H'[x]? = H[x]?) (hh : ∀ j : Nat, j ≠ i → h' j = h j) : RepH G ks h' H' := by
  refine ⟨hz.trans hR.1, fun j q' hj => ?_⟩
  by_cases e : j = i
  · subst e
    cases hq.symm.trans hj
    exact h1
  · rw [hh j e]
    exact (hR.2 j q' hj).kept (ho _ (by show G.2.2.2.1 + j ≠ _; omega))
/-- kinds are kept: one cell's new content is right -/
theorem WT.set {ks : List Kd} {h h' : Hh} {i : Nat} {q : Kd} (hW : WT ks h) (hq : ks[i]? = some q) (h1 : okc ks (h' i) i q) (hh : ∀ j : Int, j ≠ i → h' j = h j) : WT ks h' := by
  refine ⟨?_, fun j q' hj => ?_⟩
  · rw [hh (-1) (by omega)]; exact hW.1
  · by_cases e : j = i
    · subst e
      cases hq.symm.trans hj
      exact h1
    · rw [hh j (by omega)]
      exact hW.2 j q' hj
/-- a field's new content -/
theorem okc.field {ks : List Kd} {f : Int → Int} {i : Nat} {q : Kd} (h : okc ks f i q) (hq : q.1 < 100) {k : Nat} {x : Int} (hx : okf ks (cty (q.1 % 50) k) x) (hl : q.1 < 50 → ∀ y ∈ lay q.1, y.1 ≠ k) : okc ks (fun j => if j = (k : Int) then x else f j) i q := by
  obtain ⟨a1, a2, a3, a4, a5, a6, a7, a8, a9, a10⟩ := h
  refine ⟨fun hq => ⟨(a1 hq).1, fun j hj => ?_⟩, fun hq => fun y hy => ?_, fun e => by omega, fun e => by omega, fun e => by omega, fun e => by omega, fun e => by omega, fun e => by omega, a9, a10⟩
  · by_cases e : j = k
    · subst e
      show okf ks _ (if (j : Int) = j then x else _)
      rw [if_pos rfl]; exact hx
    · show okf ks _ (if (j : Int) = k then x else _)
      rw [if_neg (by omega)]; exact (a1 hq).2 j hj
  · obtain ⟨b1, b2⟩ := a2 hq y hy
    refine ⟨?_, b2⟩
    show (if ((y.1 : Nat) : Int) = (k : Int) then x else _) = _
    rw [if_neg (by have := hl hq y hy; omega)]; exact b1
theorem ec_obj (G : Gx) (f : Int → Int) (q : Kd) (h : q.1 < 100) : ec G f q = .inr (q.1 % 50, (List.range (cN (q.1 % 50))).map (fun k => fv G.2.2.2.1 (cty (q.1 % 50) k) (f k))) := by
  unfold ec; rw [if_pos h]
theorem ec_arr (G : Gx) (f : Int → Int) (q : Kd) (h : ¬ q.1 < 100) : ec G f q = .inl (G.2.2.1 q.1, q.2, ar G.2.2.2.1 q.1 f) := by
  unfold ec; rw [if_neg h]
theorem vpV_map {N : Nat} (g : Nat → Value) {k : Nat} (hk : k < N) : vp_V ((List.range N).map g) k = g k := by
  unfold vp_V
  simp [hk]
theorem map_at {N : Nat} (g : Nat → Value) {k : Nat} (hk : k < N) : ((List.range N).map g)[k]? = some (g k) := by
  simp [hk]
/-- what a token says -/
theorem okv_ref {G : Gx} {ks : List Kd} {t : Nat} {a n : Int} (h : okv G ks (vr t a n)) (ht : t ≠ 200) (h0 : 0 ≤ a) : ∃ q : Kd, ks[a.toNat]? = some q ∧ (q.2 : Int) = n ∧ q.1 = t := by
  have h : (if t = 200 then _ else _) := h
  rw [if_neg ht] at h
  rcases h with h | ⟨-, h⟩
  · omega
  · exact h
theorem tv_ref (b : Nat) {t : Nat} {a n : Int} (ht : t ≠ 200) (h0 : 0 ≤ a) : tv b (vr t a n) = .ref (b + a.toNat) := by
  show (if t = 200 then _ else rv b a) = _
  rw [if_neg ht]
  unfold rv
  rw [if_neg (by omega)]
theorem okv_mk {G : Gx} {ks : List Kd} {t m : Nat} {a n : Int} (ht : t ≠ 200) (h0 : 0 ≤ a) (hk : ks[a.toNat]? = some (t, m)) (hn : (m : Int) = n) : okv G ks (vr t a n) := by
  show (if t = 200 then _ else _)
  rw [if_neg ht]
  exact Or.inr ⟨h0, _, hk, hn, rfl⟩
/-- a field as a value -/
def gpv (ty : FieldType) (x : Int) : PV := match ty with
  | .long => vl x
  | .object C => vr (ccode C) x 0
  | .array _ => vr 999 x 0
  | _ => vi x
theorem ccode_lt (C : String) : ccode C < 50 := by
  unfold ccode
  repeat' split
  all_goals omega
theorem gpv_tv (b : Nat) (ty : FieldType) (x : Int) : tv b (gpv ty x) = fv b ty x := by
  cases ty with
  | object C =>
    show (if ccode C = 200 then _ else rv b x) = rv b x
    rw [if_neg (by have := ccode_lt C; omega)]
  | array t => rfl
  | _ => rfl
theorem gpv_ok {G : Gx} {ks : List Kd} {ty : FieldType} (hty : ∀ t, ty ≠ .array t) {x : Int} (h : okf ks ty x) : okv G ks (gpv ty x) := by
  cases ty with
  | object C =>
    show (if ccode C = 200 then _ else _)
    rw [if_neg (by have := ccode_lt C; omega)]
    rcases h with h | ⟨h0, h1⟩
    · exact Or.inl h
    · exact Or.inr ⟨h0, _, h1, rfl, rfl⟩
  | array t => exact absurd rfl (hty t)
  | _ => exact h
end
section
theorem gpv_tv_obj {b : Nat} {C : String} {x : Int} : rv b x = tv b (vr (ccode C) x 0) := by
  show _ = (if ccode C = 200 then _ else rv b x)
  rw [if_neg (by have := ccode_lt C; omega)]
theorem rv_narrow (b : Nat) (C : String) (x : Int) : narrow (.object C) (rv b x) = rv b x := by unfold rv; split <;> rfl
theorem rv_fits (b : Nat) (C : String) (x : Int) : fits (.object C) (rv b x) = true := by unfold rv; split <;> rfl
theorem rv_narrowA (b : Nat) (t : FieldType) (x : Int) : narrow (.array t) (rv b x) = rv b x := by unfold rv; split <;> rfl
theorem rv_fitsA (b : Nat) (t : FieldType) (x : Int) : fits (.array t) (rv b x) = true := by unfold rv; split <;> rfl
theorem okr_of {G : Gx} {ks : List Kd} {C : String} {x : Int} (h : okv G ks (vr (ccode C) x 0)) : okr ks (ccode C) x := by
  have h : (if ccode C = 200 then _ else _) := h
  have hl := ccode_lt C
  rw [if_neg (by omega)] at h
  rcases h with h | ⟨h0, ⟨q1, q2⟩, h1, h2, h3⟩
  · exact Or.inl h
  · dsimp only at h2 h3
    have e2 : q1 = ccode C := by omega
    have e3 : q2 = 0 := by omega
    rw [e2, e3] at h1
    exact Or.inr ⟨h0, h1⟩
theorem okv_ge {G : Gx} {ks : List Kd} {t : Nat} {x n : Int} (h : okv G ks (vr t x n)) (ht : t ≠ 200) : -1 ≤ x := by
  have h : (if t = 200 then _ else _) := h
  rw [if_neg ht] at h
  rcases h with h | ⟨h0, -⟩ <;> omega
/-! rules of PW, 3: fields -/
section PR3
variable {G : Gx} {M : MD} {rm : Room} {mc ms : Nat} {tk : List PV} {n0 : Int} {K : Int → Hh → Prop} {pc : Nat} {ls : List (Nat × PV)} {st kn : List PV} {cells slots : Nat} {h : Hh}
theorem cell_of {G : Gx} {ks : List Kd} {h : Hh} {H : Heap} {c t : Nat} {a : Int} (hR : RepH G ks h H) (hW : WT ks h) (ht : t = c ∨ t = c + 50) (hc : c < 12) (h0 : 0 ≤ a) (hv : okv G ks (vr t a 0)) : ∃ q : Kd, ks[a.toNat]? = some q ∧ q.1 < 100 ∧ q.1 % 50 = c ∧ q.2 = 0 ∧ q.1 = t ∧ okc ks (h a) a.toNat q ∧ va_at G.2.1 vwCl (G.2.2.2.1 + a.toNat, .inr (c, (List.range (cN c)).map (fun k => fv G.2.2.2.1 (cty c k) (h a k)))) H := by
  obtain ⟨q, h1, h2, h3⟩ := okv_ref hv (by omega) h0
  have hq1 : q.1 < 100 := by omega
  have hq2 : q.1 % 50 = c := by omega
  have h4 := hR.2 _ _ h1
  have h5 := hW.2 _ _ h1
  rw [ec_obj _ _ _ hq1, hq2, toNat_a h0] at h4
  rw [toNat_a h0] at h5
  exact ⟨q, h1, hq1, hq2, by omega, h3, h5, h4⟩
theorem p_get {idx c t : Nat} {a : Int} {v : PV} (hd : decode M.2.1 pc = .ok (.getfield idx, 3)) (k : Nat) (hl0 : Cond.fieldLink M.1.cls idx (cT c k).1 (cT c k).2.1 (cT c k).2.2.1 ∈ lw_good) (hc : c < 12) (hk : k < cN c) (ht : t = c ∨ t = c + 50) (h0 : 0 ≤ a) (hty : ∀ t, cty c k ≠ .array t) (hv : gpv (cty c k) (h a k) = v) (kk : PW G M rm mc ms tk n0 K (pc + 3) ls (v :: st) kn cells slots h) : PW G M rm mc ms tk n0 K pc ls (vr t a 0 :: st) kn cells slots h := by
  intro p e s m args below meth c0 H locs L ks ks0 C hS hR hW hl hol hos hon hle hn0
  have hv0 := (List.forall_mem_cons.mp hos).1
  have hst := (List.forall_mem_cons.mp hos).2
  obtain ⟨q, g1, g2, g3, g4, g5, g6, g7⟩ := cell_of hR hW ht hc h0 hv0
  have hP : va_P G.2.1 vwCl [(G.2.2.2.1 + a.toNat, .inr (c, (List.range (cN c)).map (fun k => fv G.2.2.2.1 (cty c k) (h a k))))] H := by
    intro j x hj
    have hz : j < 1 := (List.getElem?_eq_some_iff.mp hj).1
    rw [show j = 0 by omega] at hj
    cases hj
    exact g7
  have ht2 : t ≠ 200 := by omega
  rw [List.map_cons, tv_ref _ ht2 h0]
  subst hv
  have hok : okv G ks (gpv (cty c k) (h a k)) := gpv_ok hty ((g6.1 g2).2 k (by rw [g3]; exact hk) |> fun z => by rw [g3] at z; exact z)
  refine va_get C.1 C.2.1 (C.2.2.2.2.2.1) (ciw hc) C.2.2.2.2.1 C.2.2.2.2.2.2.2.2.1.1 hP 0 rfl (cl_at hc) k hk (C.2.2.2.2.2.1 _ hl0) (fun x h => h) (v := tv G.2.2.2.1 (gpv (cty c k) (h a k))) (by rw [gpv_tv]; exact map_at _ hk) hd ?_
  exact kk p e s m args below meth c0 H locs L ks ks0 C hS hR hW hl hol (List.forall_mem_cons.mpr ⟨hok, hst⟩) hon hle hn0
theorem p_lay {idx c tq n : Nat} {a : Int} (hd : decode M.2.1 pc = .ok (.getfield idx, 3)) (k off : Nat) (hl0 : Cond.fieldLink M.1.cls idx (cT c k).1 (cT c k).2.1 (cT c k).2.2.1 ∈ lw_good) (hc : c < 12) (hk : k < cN c) (h0 : 0 ≤ a) (hy : (k, off, tq, n) ∈ lay c) (ht2 : tq ≠ 200) (hfv : ∀ x, fv G.2.2.2.1 (cty c k) x = rv G.2.2.2.1 x) (kk : PW G M rm mc ms tk n0 K (pc + 3) ls (vr tq (a + off) n :: st) kn cells slots h) : PW G M rm mc ms tk n0 K pc ls (vr c a 0 :: st) kn cells slots h := by
  intro p e s m args below meth c0 H locs L ks ks0 C hS hR hW hl hol hos hon hle hn0
  have hv0 := (List.forall_mem_cons.mp hos).1
  have hst := (List.forall_mem_cons.mp hos).2
  obtain ⟨q, g1, g2, g3, g4, g5, g6, g7⟩ := cell_of hR hW (Or.inl rfl) hc h0 hv0
  have hP : va_P G.2.1 vwCl [(G.2.2.2.1 + a.toNat, .inr (c, (List.range (cN c)).map (fun k => fv G.2.2.2.1 (cty c k) (h a k))))] H := by
    intro j x hj
    have hz : j < 1 := (List.getElem?_eq_some_iff.mp hj).1
    rw [show j = 0 by omega] at hj
    cases hj
    exact g7
  have ht3 : c ≠ 200 := by omega
  rw [List.map_cons, tv_ref _ ht3 h0]
  have e1 := g5
  obtain ⟨b1, b2⟩ := g6.2.1 (by omega) (k, off, tq, n) (by rw [e1]; exact hy)
  dsimp only at b1 b2
  rw [toNat_a h0] at b1
  have hok : okv G ks (vr tq (a + off) n) := okv_mk ht2 (by omega) (by rw [show (a + off).toNat = a.toNat + off by omega]; exact b2) rfl
  refine va_get C.1 C.2.1 (C.2.2.2.2.2.1) (ciw hc) C.2.2.2.2.1 C.2.2.2.2.2.2.2.2.1.1 hP 0 rfl (cl_at hc) k hk (C.2.2.2.2.2.1 _ hl0) (fun x h => h) (v := tv G.2.2.2.1 (vr tq (a + off) n)) ?_ hd ?_
  · rw [map_at _ hk, hfv, b1, tv_ref _ ht2 (by omega)]
    unfold rv
    rw [if_neg (by omega)]
  · exact kk p e s m args below meth c0 H locs L ks ks0 C hS hR hW hl hol (List.forall_mem_cons.mpr ⟨hok, hst⟩) hon hle hn0
theorem p_getN {idx c t : Nat} {a : Int} {v : PV} (hd : decode M.2.1 pc = .ok (.getfield idx, 3)) (k : Nat) (hl0 : Cond.fieldLinkNest M.1.cls idx (cT c k).1 (cT c k).2.1 (cT c k).2.2.1 RX10 ∈ tables_1) (hc : c < 12) (hk : k < cN c) (ht : t = c ∨ t = c + 50) (h0 : 0 ≤ a) (hty : ∀ t, cty c k ≠ .array t) (hv : gpv (cty c k) (h a k) = v) (kk : PW G M rm mc ms tk n0 K (pc + 3) ls (v :: st) kn cells slots h) : PW G M rm mc ms tk n0 K pc ls (vr t a 0 :: st) kn cells slots h := by
  intro p e s m args below meth c0 H locs L ks ks0 C hS hR hW hl hol hos hon hle hn0
  have hv0 := (List.forall_mem_cons.mp hos).1
  have hst := (List.forall_mem_cons.mp hos).2
  obtain ⟨q, g1, g2, g3, g4, g5, g6, g7⟩ := cell_of hR hW ht hc h0 hv0
  have hP : va_P G.2.1 vwCl [(G.2.2.2.1 + a.toNat, .inr (c, (List.range (cN c)).map (fun k => fv G.2.2.2.1 (cty c k) (h a k))))] H := by
    intro j x hj
    have hz : j < 1 := (List.getElem?_eq_some_iff.mp hj).1
    rw [show j = 0 by omega] at hj
    cases hj
    exact g7
  have ht2 : t ≠ 200 := by omega
  rw [List.map_cons, tv_ref _ ht2 h0]
  subst hv
  have hok : okv G ks (gpv (cty c k) (h a k)) := gpv_ok hty ((g6.1 g2).2 k (by rw [g3]; exact hk) |> fun z => by rw [g3] at z; exact z)
  refine va_getN C.1 C.2.1 (C.2.2.2.2.2.1) (ciw hc) C.2.2.2.2.1 C.2.2.2.2.2.2.2.2.1.1 hP 0 rfl (cl_at hc) k hk (va_Nw.use (A := args) rfl (C.2.2.2.2.2.2.2.2.1.2.1 _ hl0 rfl)) (fun x h => h) (v := tv G.2.2.2.1 (gpv (cty c k) (h a k))) (by rw [gpv_tv]; exact map_at _ hk) hd ?_
  exact kk p e s m args below meth c0 H locs L ks ks0 C hS hR hW hl hol (List.forall_mem_cons.mpr ⟨hok, hst⟩) hon hle hn0
theorem p_layN {idx c tq n : Nat} {a : Int} (hd : decode M.2.1 pc = .ok (.getfield idx, 3)) (k off : Nat) (hl0 : Cond.fieldLinkNest M.1.cls idx (cT c k).1 (cT c k).2.1 (cT c k).2.2.1 RX10 ∈ tables_1) (hc : c < 12) (hk : k < cN c) (h0 : 0 ≤ a) (hy : (k, off, tq, n) ∈ lay c) (ht2 : tq ≠ 200) (hfv : ∀ x, fv G.2.2.2.1 (cty c k) x = rv G.2.2.2.1 x) (kk : PW G M rm mc ms tk n0 K (pc + 3) ls (vr tq (a + off) n :: st) kn cells slots h) : PW G M rm mc ms tk n0 K pc ls (vr c a 0 :: st) kn cells slots h := by
  intro p e s m args below meth c0 H locs L ks ks0 C hS hR hW hl hol hos hon hle hn0
  have hv0 := (List.forall_mem_cons.mp hos).1
  have hst := (List.forall_mem_cons.mp hos).2
  obtain ⟨q, g1, g2, g3, g4, g5, g6, g7⟩ := cell_of hR hW (Or.inl rfl) hc h0 hv0
  have hP : va_P G.2.1 vwCl [(G.2.2.2.1 + a.toNat, .inr (c, (List.range (cN c)).map (fun k => fv G.2.2.2.1 (cty c k) (h a k))))] H := by
    intro j x hj
    have hz : j < 1 := (List.getElem?_eq_some_iff.mp hj).1
    rw [show j = 0 by omega] at hj
    cases hj
    exact g7
  have ht3 : c ≠ 200 := by omega
  rw [List.map_cons, tv_ref _ ht3 h0]
  have e1 := g5
  obtain ⟨b1, b2⟩ := g6.2.1 (by omega) (k, off, tq, n) (by rw [e1]; exact hy)
  dsimp only at b1 b2
  rw [toNat_a h0] at b1
  have hok : okv G ks (vr tq (a + off) n) := okv_mk ht2 (by omega) (by rw [show (a + off).toNat = a.toNat + off by omega]; exact b2) rfl
  refine va_getN C.1 C.2.1 (C.2.2.2.2.2.1) (ciw hc) C.2.2.2.2.1 C.2.2.2.2.2.2.2.2.1.1 hP 0 rfl (cl_at hc) k hk (va_Nw.use (A := args) rfl (C.2.2.2.2.2.2.2.2.1.2.1 _ hl0 rfl)) (fun x h => h) (v := tv G.2.2.2.1 (vr tq (a + off) n)) ?_ hd ?_
  · rw [map_at _ hk, hfv, b1, tv_ref _ ht2 (by omega)]
    unfold rv
    rw [if_neg (by omega)]
  · exact kk p e s m args below meth c0 H locs L ks ks0 C hS hR hW hl hol (List.forall_mem_cons.mpr ⟨hok, hst⟩) hon hle hn0
theorem p_puti {idx c t : Nat} {a x : Int} (hd : decode M.2.1 pc = .ok (.putfield idx, 3)) (k : Nat) (hl0 : Cond.fieldLink M.1.cls idx (cT c k).1 (cT c k).2.1 (cT c k).2.2.1 ∈ lw_good) (hc : c < 12) (hk : k < cN c) (ht : t = c ∨ t = c + 50) (h0 : 0 ≤ a) (hty : cty c k = .int) (hfin : (cT c k).2.2.2 = false) (hnl : t = c → ∀ y ∈ lay c, y.1 ≠ k) (kk : PW G M rm mc ms tk n0 K (pc + 3) ls st kn cells slots (up h a k x)) : PW G M rm mc ms tk n0 K pc ls (vi x :: vr t a 0 :: st) kn cells slots h := by
  intro p e s m args below meth c0 H locs L ks ks0 C hS hR hW hl hol hos hon hle hn0
  have hv0 := (List.forall_mem_cons.mp hos).1
  have hv1 := (List.forall_mem_cons.mp (List.forall_mem_cons.mp hos).2).1
  have hst := (List.forall_mem_cons.mp (List.forall_mem_cons.mp hos).2).2
  obtain ⟨q, g1, g2, g3, g4, g5, g6, r, h1, cell, q1, q2, q3, q4⟩ := cell_of hR hW ht hc h0 hv1
  have hr : r = (cR c, cT c, cN c) := Option.some.inj (h1.symm.trans (cl_at hc))
  subst hr
  have ht2 : t ≠ 200 := by omega
  rw [List.map_cons, List.map_cons, tv_ref _ ht2 h0]
  have hts := C.2.2.2.2.2.1
  have hin := ciw hc
  have hK := C.2.2.2.2.2.2.2.2.1.1
  have hap := va_apart (own := M.1.cls) hts hin (cty c) (cty_ok hc) (cnm hc) hK (cl_at hc)
  obtain ⟨hS1, hfc, kC, hkC, hkind⟩ := hK.1 c _ (cl_at hc)
  obtain ⟨cf, kf, fi, f, hi, hsl⟩ := hS1 k hk
  have hlay := hts _ (hin _ (u_in_lay hk))
  unfold u_lay at hlay
  rw [if_neg (by rw [hfin]; decide)] at hlay
  have hty2 : ∀ t, cty c k ≠ .array t ∨ True := fun _ => Or.inr trivial
  have hfv : fv G.2.2.2.1 (cty c k) x = tv G.2.2.2.1 (vi x) := by
    rw [hty]; rfl
  have hst1 := (u_facts hfc hkC (u_lays hts hin hk) hi).1
  have hn : narrow (cty c k) (tv G.2.2.2.1 (vi x)) = tv G.2.2.2.1 (vi x) := by
    rw [hty]; rfl
  have hfit : fits (cty c k) (tv G.2.2.2.1 (vi x)) = true := by
    rw [hty]; rfl
  have h6 := u_store hfc hkC hkind hlay hi (cty_ok hc k hk) hn hfit
  refine W.putK C.1 C.2.1 (f := f) ⟨C.2.2.2.2.1, hts _ hl0, ⟨_, _, _, hi⟩, hst1⟩ (by rw [q2]; exact h6) q1 q3 (by rw [hsl]; exact k2_hasslot (q4 k hk)) rfl rfl hd fun H' e1 e2 e3 => ?_
  have e1' : H'[G.2.2.2.1 + a.toNat]? = some (cell.setSlot (G.2.1.2 c k) (tv G.2.2.2.1 (vi x))) := by rw [← hsl]; exact e1
  have hR' : RepH G ks (up h a k x) H' := by
    refine hR.set g1 ?_ e2 e3 (fun j hj => up_ne (by have := toNat_a h0; omega))
    rw [ec_obj _ _ _ g2, g3]
    refine ⟨_, cl_at hc, t_OB.to (V := updV (vp_V ((List.range (cN c)).map (fun k => fv G.2.2.2.1 (cty c k) (h a k)))) k (tv G.2.2.2.1 (vi x))) ⟨_, e1', q2, q3, t_set q4 hap hk _⟩ (fun j hj => ?_)⟩
    rw [vpV_map _ hj, toNat_a h0, up_at]
    unfold updV
    by_cases e : j = k
    · subst e
      rw [if_pos rfl, if_pos rfl]; exact hfv.symm
    · rw [if_neg e, if_neg (by omega), vpV_map _ hj]
  have hW' : WT ks (up h a k x) := by
    refine hW.set g1 ?_ (fun j hj => up_ne (by have := toNat_a h0; omega))
    have e5 : up h a k x (a.toNat : Nat) = fun j => if j = (k : Int) then x else h a j := by
      rw [toNat_a h0]; funext j; exact up_at
    rw [e5]
    exact g6.field g2 (by rw [g3]; exact (by rw [hty]; exact hv0)) (fun hq y hy => hnl (by omega) y (by rw [← g3, Nat.mod_eq_of_lt hq]; exact hy))
  have hS' := hS.put (k := f.slot) e2 e3 (show fre G _ from Nat.le_add_right _ _)
  exact kk p e s m args below meth c0 H' _ L ks ks0 C hS' hR' hW' hl hol hst hon hle hn0
theorem p_putiN {idx c t : Nat} {a x : Int} (hd : decode M.2.1 pc = .ok (.putfield idx, 3)) (k : Nat) (hl0 : Cond.fieldLinkNest M.1.cls idx (cT c k).1 (cT c k).2.1 (cT c k).2.2.1 RX10 ∈ tables_1) (hc : c < 12) (hk : k < cN c) (ht : t = c ∨ t = c + 50) (h0 : 0 ≤ a) (hty : cty c k = .int) (hfin : (cT c k).2.2.2 = false) (hnl : t = c → ∀ y ∈ lay c, y.1 ≠ k) (kk : PW G M rm mc ms tk n0 K (pc + 3) ls st kn cells slots (up h a k x)) : PW G M rm mc ms tk n0 K pc ls (vi x :: vr t a 0 :: st) kn cells slots h := by
  intro p e s m args below meth c0 H locs L ks ks0 C hS hR hW hl hol hos hon hle hn0
  have hv0 := (List.forall_mem_cons.mp hos).1
  have hv1 := (List.forall_mem_cons.mp (List.forall_mem_cons.mp hos).2).1
  have hst := (List.forall_mem_cons.mp (List.forall_mem_cons.mp hos).2).2
  obtain ⟨q, g1, g2, g3, g4, g5, g6, r, h1, cell, q1, q2, q3, q4⟩ := cell_of hR hW ht hc h0 hv1
  have hr : r = (cR c, cT c, cN c) := Option.some.inj (h1.symm.trans (cl_at hc))
  subst hr
  have ht2 : t ≠ 200 := by omega
  rw [List.map_cons, List.map_cons, tv_ref _ ht2 h0]
  have hts := C.2.2.2.2.2.1
  have hin := ciw hc
  have hK := C.2.2.2.2.2.2.2.2.1.1
  have hap := va_apart (own := M.1.cls) hts hin (cty c) (cty_ok hc) (cnm hc) hK (cl_at hc)
  obtain ⟨hS1, hfc, kC, hkC, hkind⟩ := hK.1 c _ (cl_at hc)
  obtain ⟨cf, kf, fi, f, hi, hsl⟩ := hS1 k hk
  have hlay := hts _ (hin _ (u_in_lay hk))
  unfold u_lay at hlay
  rw [if_neg (by rw [hfin]; decide)] at hlay
  have hty2 : ∀ t, cty c k ≠ .array t ∨ True := fun _ => Or.inr trivial
  have hfv : fv G.2.2.2.1 (cty c k) x = tv G.2.2.2.1 (vi x) := by
    rw [hty]; rfl
  have hst1 := (u_facts hfc hkC (u_lays hts hin hk) hi).1
  have hn : narrow (cty c k) (tv G.2.2.2.1 (vi x)) = tv G.2.2.2.1 (vi x) := by
    rw [hty]; rfl
  have hfit : fits (cty c k) (tv G.2.2.2.1 (vi x)) = true := by
    rw [hty]; rfl
  have h6 := u_store hfc hkC hkind hlay hi (cty_ok hc k hk) hn hfit
  refine va_WputK C.1 C.2.1 (f := f) C.2.2.2.2.1 (va_Nw.use (A := args) rfl (C.2.2.2.2.2.2.2.2.1.2.1 _ hl0 rfl)) hi hst1 (by rw [q2]; exact h6) q1 q3 (by rw [hsl]; exact k2_hasslot (q4 k hk)) rfl rfl hd fun H' e1 e2 e3 => ?_
  have e1' : H'[G.2.2.2.1 + a.toNat]? = some (cell.setSlot (G.2.1.2 c k) (tv G.2.2.2.1 (vi x))) := by rw [← hsl]; exact e1
  have hR' : RepH G ks (up h a k x) H' := by
    refine hR.set g1 ?_ e2 e3 (fun j hj => up_ne (by have := toNat_a h0; omega))
    rw [ec_obj _ _ _ g2, g3]
    refine ⟨_, cl_at hc, t_OB.to (V := updV (vp_V ((List.range (cN c)).map (fun k => fv G.2.2.2.1 (cty c k) (h a k)))) k (tv G.2.2.2.1 (vi x))) ⟨_, e1', q2, q3, t_set q4 hap hk _⟩ (fun j hj => ?_)⟩
    rw [vpV_map _ hj, toNat_a h0, up_at]
    unfold updV
    by_cases e : j = k
    · subst e
      rw [if_pos rfl, if_pos rfl]; exact hfv.symm
    · rw [if_neg e, if_neg (by omega), vpV_map _ hj]
  have hW' : WT ks (up h a k x) := by
    refine hW.set g1 ?_ (fun j hj => up_ne (by have := toNat_a h0; omega))
    have e5 : up h a k x (a.toNat : Nat) = fun j => if j = (k : Int) then x else h a j := by
      rw [toNat_a h0]; funext j; exact up_at
    rw [e5]
    exact g6.field g2 (by rw [g3]; exact (by rw [hty]; exact hv0)) (fun hq y hy => hnl (by omega) y (by rw [← g3, Nat.mod_eq_of_lt hq]; exact hy))
  have hS' := hS.put (k := f.slot) e2 e3 (show fre G _ from Nat.le_add_right _ _)
  exact kk p e s m args below meth c0 H' _ L ks ks0 C hS' hR' hW' hl hol hst hon hle hn0
theorem p_putiF {idx c t : Nat} {a x : Int} (hd : decode M.2.1 pc = .ok (.putfield idx, 3)) (k : Nat) (hl0 : Cond.fieldLink M.1.cls idx (cT c k).1 (cT c k).2.1 (cT c k).2.2.1 ∈ lw_good) (hc : c < 12) (hk : k < cN c) (ht : t = c ∨ t = c + 50) (h0 : 0 ≤ a) (hty : cty c k = .int) (hfin : (cT c k).2.2.2 = true) (hini : M.1.name = "<init>") (hown : (cT c k).1 = M.1.cls) (hraw : t = c + 50) (hnl : t = c → ∀ y ∈ lay c, y.1 ≠ k) (kk : PW G M rm mc ms tk n0 K (pc + 3) ls st kn cells slots (up h a k x)) : PW G M rm mc ms tk n0 K pc ls (vi x :: vr t a 0 :: st) kn cells slots h := by
  intro p e s m args below meth c0 H locs L ks ks0 C hS hR hW hl hol hos hon hle hn0
  have hv0 := (List.forall_mem_cons.mp hos).1
  have hv1 := (List.forall_mem_cons.mp (List.forall_mem_cons.mp hos).2).1
  have hst := (List.forall_mem_cons.mp (List.forall_mem_cons.mp hos).2).2
  obtain ⟨q, g1, g2, g3, g4, g5, g6, r, h1, cell, q1, q2, q3, q4⟩ := cell_of hR hW ht hc h0 hv1
  have hr : r = (cR c, cT c, cN c) := Option.some.inj (h1.symm.trans (cl_at hc))
  subst hr
  have ht2 : t ≠ 200 := by omega
  rw [List.map_cons, List.map_cons, tv_ref _ ht2 h0]
  have hts := C.2.2.2.2.2.1
  have hin := ciw hc
  have hK := C.2.2.2.2.2.2.2.2.1.1
  have hap := va_apart (own := M.1.cls) hts hin (cty c) (cty_ok hc) (cnm hc) hK (cl_at hc)
  obtain ⟨hS1, hfc, kC, hkC, hkind⟩ := hK.1 c _ (cl_at hc)
  obtain ⟨cf, kf, fi, f, hi, hsl⟩ := hS1 k hk
  have hlay := hts _ (hin _ (u_in_lay hk))
  unfold u_lay at hlay
  rw [if_pos hfin] at hlay
  have hty2 : ∀ t, cty c k ≠ .array t ∨ True := fun _ => Or.inr trivial
  have hfv : fv G.2.2.2.1 (cty c k) x = tv G.2.2.2.1 (vi x) := by
    rw [hty]; rfl
  have hst1 := (u_facts hfc hkC (u_lays hts hin hk) hi).1
  have hn : narrow (cty c k) (tv G.2.2.2.1 (vi x)) = tv G.2.2.2.1 (vi x) := by
    rw [hty]; rfl
  have hfit : fits (cty c k) (tv G.2.2.2.1 (vi x)) = true := by
    rw [hty]; rfl
  have hcf : m.cls = cf := by
    obtain ⟨_, _, c', _, _, _, -, -, hf', -, -, -, hown2, -⟩ := Cond.laysFinal_spec hlay
    have e1 : c' = cf := by have := hi.symm.trans hf'; simp at this; exact this.1.symm
    rw [hown] at hown2
    rw [← e1]; exact Option.some.inj (C.2.2.2.2.1.symm.trans hown2)
  have h6 := u_fits hfc hkC hkind (Or.inr hlay) hi (cty_ok hc k hk) hn hfit
  refine W.putFinK C.1 C.2.1 C.2.2.2.2.1 (hts _ hl0) hi hst1 hcf (C.2.2.2.2.2.2.2.1.trans hini) (by rw [q2]; exact h6) q1 q3 (by rw [hsl]; exact k2_hasslot (q4 k hk)) rfl rfl hd fun H' e1 e2 e3 => ?_
  have e1' : H'[G.2.2.2.1 + a.toNat]? = some (cell.setSlot (G.2.1.2 c k) (tv G.2.2.2.1 (vi x))) := by rw [← hsl]; exact e1
  have hR' : RepH G ks (up h a k x) H' := by
    refine hR.set g1 ?_ e2 e3 (fun j hj => up_ne (by have := toNat_a h0; omega))
    rw [ec_obj _ _ _ g2, g3]
    refine ⟨_, cl_at hc, t_OB.to (V := updV (vp_V ((List.range (cN c)).map (fun k => fv G.2.2.2.1 (cty c k) (h a k)))) k (tv G.2.2.2.1 (vi x))) ⟨_, e1', q2, q3, t_set q4 hap hk _⟩ (fun j hj => ?_)⟩
    rw [vpV_map _ hj, toNat_a h0, up_at]
    unfold updV
    by_cases e : j = k
    · subst e
      rw [if_pos rfl, if_pos rfl]; exact hfv.symm
    · rw [if_neg e, if_neg (by omega), vpV_map _ hj]
  have hW' : WT ks (up h a k x) := by
    refine hW.set g1 ?_ (fun j hj => up_ne (by have := toNat_a h0; omega))
    have e5 : up h a k x (a.toNat : Nat) = fun j => if j = (k : Int) then x else h a j := by
      rw [toNat_a h0]; funext j; exact up_at
    rw [e5]
    exact g6.field g2 (by rw [g3]; exact (by rw [hty]; exact hv0)) (fun hq y hy => hnl (by omega) y (by rw [← g3, Nat.mod_eq_of_lt hq]; exact hy))
  have hS' := hS.put (k := f.slot) e2 e3 (show fre G _ from Nat.le_add_right _ _)
  exact kk p e s m args below meth c0 H' _ L ks ks0 C hS' hR' hW' hl hol hst hon hle hn0
theorem p_putl {idx c t : Nat} {a x : Int} (hd : decode M.2.1 pc = .ok (.putfield idx, 3)) (k : Nat) (hl0 : Cond.fieldLink M.1.cls idx (cT c k).1 (cT c k).2.1 (cT c k).2.2.1 ∈ lw_good) (hc : c < 12) (hk : k < cN c) (ht : t = c ∨ t = c + 50) (h0 : 0 ≤ a) (hty : cty c k = .long) (hfin : (cT c k).2.2.2 = false) (hnl : t = c → ∀ y ∈ lay c, y.1 ≠ k) (kk : PW G M rm mc ms tk n0 K (pc + 3) ls st kn cells slots (up h a k x)) : PW G M rm mc ms tk n0 K pc ls (vl x :: vr t a 0 :: st) kn cells slots h := by
  intro p e s m args below meth c0 H locs L ks ks0 C hS hR hW hl hol hos hon hle hn0
  have hv0 := (List.forall_mem_cons.mp hos).1
  have hv1 := (List.forall_mem_cons.mp (List.forall_mem_cons.mp hos).2).1
  have hst := (List.forall_mem_cons.mp (List.forall_mem_cons.mp hos).2).2
  obtain ⟨q, g1, g2, g3, g4, g5, g6, r, h1, cell, q1, q2, q3, q4⟩ := cell_of hR hW ht hc h0 hv1
  have hr : r = (cR c, cT c, cN c) := Option.some.inj (h1.symm.trans (cl_at hc))
  subst hr
  have ht2 : t ≠ 200 := by omega
  rw [List.map_cons, List.map_cons, tv_ref _ ht2 h0]
  have hts := C.2.2.2.2.2.1
  have hin := ciw hc
  have hK := C.2.2.2.2.2.2.2.2.1.1
  have hap := va_apart (own := M.1.cls) hts hin (cty c) (cty_ok hc) (cnm hc) hK (cl_at hc)
  obtain ⟨hS1, hfc, kC, hkC, hkind⟩ := hK.1 c _ (cl_at hc)
  obtain ⟨cf, kf, fi, f, hi, hsl⟩ := hS1 k hk
  have hlay := hts _ (hin _ (u_in_lay hk))
  unfold u_lay at hlay
  rw [if_neg (by rw [hfin]; decide)] at hlay
  have hty2 : ∀ t, cty c k ≠ .array t ∨ True := fun _ => Or.inr trivial
  have hfv : fv G.2.2.2.1 (cty c k) x = tv G.2.2.2.1 (vl x) := by
    rw [hty]; rfl
  have hst1 := (u_facts hfc hkC (u_lays hts hin hk) hi).1
  have hn : narrow (cty c k) (tv G.2.2.2.1 (vl x)) = tv G.2.2.2.1 (vl x) := by
    rw [hty]; rfl
  have hfit : fits (cty c k) (tv G.2.2.2.1 (vl x)) = true := by
    rw [hty]; rfl
  have h6 := u_store hfc hkC hkind hlay hi (cty_ok hc k hk) hn hfit
  refine W.putK C.1 C.2.1 (f := f) ⟨C.2.2.2.2.1, hts _ hl0, ⟨_, _, _, hi⟩, hst1⟩ (by rw [q2]; exact h6) q1 q3 (by rw [hsl]; exact k2_hasslot (q4 k hk)) rfl rfl hd fun H' e1 e2 e3 => ?_
  have e1' : H'[G.2.2.2.1 + a.toNat]? = some (cell.setSlot (G.2.1.2 c k) (tv G.2.2.2.1 (vl x))) := by rw [← hsl]; exact e1
  have hR' : RepH G ks (up h a k x) H' := by
    refine hR.set g1 ?_ e2 e3 (fun j hj => up_ne (by have := toNat_a h0; omega))
    rw [ec_obj _ _ _ g2, g3]
    refine ⟨_, cl_at hc, t_OB.to (V := updV (vp_V ((List.range (cN c)).map (fun k => fv G.2.2.2.1 (cty c k) (h a k)))) k (tv G.2.2.2.1 (vl x))) ⟨_, e1', q2, q3, t_set q4 hap hk _⟩ (fun j hj => ?_)⟩
    rw [vpV_map _ hj, toNat_a h0, up_at]
    unfold updV
    by_cases e : j = k
    · subst e
      rw [if_pos rfl, if_pos rfl]; exact hfv.symm
    · rw [if_neg e, if_neg (by omega), vpV_map _ hj]
  have hW' : WT ks (up h a k x) := by
    refine hW.set g1 ?_ (fun j hj => up_ne (by have := toNat_a h0; omega))
    have e5 : up h a k x (a.toNat : Nat) = fun j => if j = (k : Int) then x else h a j := by
      rw [toNat_a h0]; funext j; exact up_at
    rw [e5]
    exact g6.field g2 (by rw [g3]; exact (by rw [hty]; exact hv0)) (fun hq y hy => hnl (by omega) y (by rw [← g3, Nat.mod_eq_of_lt hq]; exact hy))
  have hS' := hS.put (k := f.slot) e2 e3 (show fre G _ from Nat.le_add_right _ _)
  exact kk p e s m args below meth c0 H' _ L ks ks0 C hS' hR' hW' hl hol hst hon hle hn0
theorem p_putlN {idx c t : Nat} {a x : Int} (hd : decode M.2.1 pc = .ok (.putfield idx, 3)) (k : Nat) (hl0 : Cond.fieldLinkNest M.1.cls idx (cT c k).1 (cT c k).2.1 (cT c k).2.2.1 RX10 ∈ tables_1) (hc : c < 12) (hk : k < cN c) (ht : t = c ∨ t = c + 50) (h0 : 0 ≤ a) (hty : cty c k = .long) (hfin : (cT c k).2.2.2 = false) (hnl : t = c → ∀ y ∈ lay c, y.1 ≠ k) (kk : PW G M rm mc ms tk n0 K (pc + 3) ls st kn cells slots (up h a k x)) : PW G M rm mc ms tk n0 K pc ls (vl x :: vr t a 0 :: st) kn cells slots h := by
  intro p e s m args below meth c0 H locs L ks ks0 C hS hR hW hl hol hos hon hle hn0
  have hv0 := (List.forall_mem_cons.mp hos).1
  have hv1 := (List.forall_mem_cons.mp (List.forall_mem_cons.mp hos).2).1
  have hst := (List.forall_mem_cons.mp (List.forall_mem_cons.mp hos).2).2
  obtain ⟨q, g1, g2, g3, g4, g5, g6, r, h1, cell, q1, q2, q3, q4⟩ := cell_of hR hW ht hc h0 hv1
  have hr : r = (cR c, cT c, cN c) := Option.some.inj (h1.symm.trans (cl_at hc))
  subst hr
  have ht2 : t ≠ 200 := by omega
  rw [List.map_cons, List.map_cons, tv_ref _ ht2 h0]
  have hts := C.2.2.2.2.2.1
  have hin := ciw hc
  have hK := C.2.2.2.2.2.2.2.2.1.1
  have hap := va_apart (own := M.1.cls) hts hin (cty c) (cty_ok hc) (cnm hc) hK (cl_at hc)
  obtain ⟨hS1, hfc, kC, hkC, hkind⟩ := hK.1 c _ (cl_at hc)
  obtain ⟨cf, kf, fi, f, hi, hsl⟩ := hS1 k hk
  have hlay := hts _ (hin _ (u_in_lay hk))
  unfold u_lay at hlay
  rw [if_neg (by rw [hfin]; decide)] at hlay
  have hty2 : ∀ t, cty c k ≠ .array t ∨ True := fun _ => Or.inr trivial
  have hfv : fv G.2.2.2.1 (cty c k) x = tv G.2.2.2.1 (vl x) := by
    rw [hty]; rfl
  have hst1 := (u_facts hfc hkC (u_lays hts hin hk) hi).1
  have hn : narrow (cty c k) (tv G.2.2.2.1 (vl x)) = tv G.2.2.2.1 (vl x) := by
    rw [hty]; rfl
  have hfit : fits (cty c k) (tv G.2.2.2.1 (vl x)) = true := by
    rw [hty]; rfl
  have h6 := u_store hfc hkC hkind hlay hi (cty_ok hc k hk) hn hfit
  refine va_WputK C.1 C.2.1 (f := f) C.2.2.2.2.1 (va_Nw.use (A := args) rfl (C.2.2.2.2.2.2.2.2.1.2.1 _ hl0 rfl)) hi hst1 (by rw [q2]; exact h6) q1 q3 (by rw [hsl]; exact k2_hasslot (q4 k hk)) rfl rfl hd fun H' e1 e2 e3 => ?_
  have e1' : H'[G.2.2.2.1 + a.toNat]? = some (cell.setSlot (G.2.1.2 c k) (tv G.2.2.2.1 (vl x))) := by rw [← hsl]; exact e1
  have hR' : RepH G ks (up h a k x) H' := by
    refine hR.set g1 ?_ e2 e3 (fun j hj => up_ne (by have := toNat_a h0; omega))
    rw [ec_obj _ _ _ g2, g3]
    refine ⟨_, cl_at hc, t_OB.to (V := updV (vp_V ((List.range (cN c)).map (fun k => fv G.2.2.2.1 (cty c k) (h a k)))) k (tv G.2.2.2.1 (vl x))) ⟨_, e1', q2, q3, t_set q4 hap hk _⟩ (fun j hj => ?_)⟩
    rw [vpV_map _ hj, toNat_a h0, up_at]
    unfold updV
    by_cases e : j = k
    · subst e
      rw [if_pos rfl, if_pos rfl]; exact hfv.symm
    · rw [if_neg e, if_neg (by omega), vpV_map _ hj]
  have hW' : WT ks (up h a k x) := by
    refine hW.set g1 ?_ (fun j hj => up_ne (by have := toNat_a h0; omega))
    have e5 : up h a k x (a.toNat : Nat) = fun j => if j = (k : Int) then x else h a j := by
      rw [toNat_a h0]; funext j; exact up_at
    rw [e5]
    exact g6.field g2 (by rw [g3]; exact (by rw [hty]; exact hv0)) (fun hq y hy => hnl (by omega) y (by rw [← g3, Nat.mod_eq_of_lt hq]; exact hy))
  have hS' := hS.put (k := f.slot) e2 e3 (show fre G _ from Nat.le_add_right _ _)
  exact kk p e s m args below meth c0 H' _ L ks ks0 C hS' hR' hW' hl hol hst hon hle hn0
theorem p_putlF {idx c t : Nat} {a x : Int} (hd : decode M.2.1 pc = .ok (.putfield idx, 3)) (k : Nat) (hl0 : Cond.fieldLink M.1.cls idx (cT c k).1 (cT c k).2.1 (cT c k).2.2.1 ∈ lw_good) (hc : c < 12) (hk : k < cN c) (ht : t = c ∨ t = c + 50) (h0 : 0 ≤ a) (hty : cty c k = .long) (hfin : (cT c k).2.2.2 = true) (hini : M.1.name = "<init>") (hown : (cT c k).1 = M.1.cls) (hraw : t = c + 50) (hnl : t = c → ∀ y ∈ lay c, y.1 ≠ k) (kk : PW G M rm mc ms tk n0 K (pc + 3) ls st kn cells slots (up h a k x)) : PW G M rm mc ms tk n0 K pc ls (vl x :: vr t a 0 :: st) kn cells slots h := by
  intro p e s m args below meth c0 H locs L ks ks0 C hS hR hW hl hol hos hon hle hn0
  have hv0 := (List.forall_mem_cons.mp hos).1
  have hv1 := (List.forall_mem_cons.mp (List.forall_mem_cons.mp hos).2).1
  have hst := (List.forall_mem_cons.mp (List.forall_mem_cons.mp hos).2).2
  obtain ⟨q, g1, g2, g3, g4, g5, g6, r, h1, cell, q1, q2, q3, q4⟩ := cell_of hR hW ht hc h0 hv1
  have hr : r = (cR c, cT c, cN c) := Option.some.inj (h1.symm.trans (cl_at hc))
  subst hr
  have ht2 : t ≠ 200 := by omega
  rw [List.map_cons, List.map_cons, tv_ref _ ht2 h0]
  have hts := C.2.2.2.2.2.1
  have hin := ciw hc
  have hK := C.2.2.2.2.2.2.2.2.1.1
  have hap := va_apart (own := M.1.cls) hts hin (cty c) (cty_ok hc) (cnm hc) hK (cl_at hc)
  obtain ⟨hS1, hfc, kC, hkC, hkind⟩ := hK.1 c _ (cl_at hc)
  obtain ⟨cf, kf, fi, f, hi, hsl⟩ := hS1 k hk
  have hlay := hts _ (hin _ (u_in_lay hk))
  unfold u_lay at hlay
  rw [if_pos hfin] at hlay
  have hty2 : ∀ t, cty c k ≠ .array t ∨ True := fun _ => Or.inr trivial
  have hfv : fv G.2.2.2.1 (cty c k) x = tv G.2.2.2.1 (vl x) := by
    rw [hty]; rfl
  have hst1 := (u_facts hfc hkC (u_lays hts hin hk) hi).1
  have hn : narrow (cty c k) (tv G.2.2.2.1 (vl x)) = tv G.2.2.2.1 (vl x) := by
    rw [hty]; rfl
  have hfit : fits (cty c k) (tv G.2.2.2.1 (vl x)) = true := by
    rw [hty]; rfl
  have hcf : m.cls = cf := by
    obtain ⟨_, _, c', _, _, _, -, -, hf', -, -, -, hown2, -⟩ := Cond.laysFinal_spec hlay
    have e1 : c' = cf := by have := hi.symm.trans hf'; simp at this; exact this.1.symm
    rw [hown] at hown2
    rw [← e1]; exact Option.some.inj (C.2.2.2.2.1.symm.trans hown2)
  have h6 := u_fits hfc hkC hkind (Or.inr hlay) hi (cty_ok hc k hk) hn hfit
  refine W.putFinK C.1 C.2.1 C.2.2.2.2.1 (hts _ hl0) hi hst1 hcf (C.2.2.2.2.2.2.2.1.trans hini) (by rw [q2]; exact h6) q1 q3 (by rw [hsl]; exact k2_hasslot (q4 k hk)) rfl rfl hd fun H' e1 e2 e3 => ?_
  have e1' : H'[G.2.2.2.1 + a.toNat]? = some (cell.setSlot (G.2.1.2 c k) (tv G.2.2.2.1 (vl x))) := by rw [← hsl]; exact e1
  have hR' : RepH G ks (up h a k x) H' := by
    refine hR.set g1 ?_ e2 e3 (fun j hj => up_ne (by have := toNat_a h0; omega))
    rw [ec_obj _ _ _ g2, g3]
    refine ⟨_, cl_at hc, t_OB.to (V := updV (vp_V ((List.range (cN c)).map (fun k => fv G.2.2.2.1 (cty c k) (h a k)))) k (tv G.2.2.2.1 (vl x))) ⟨_, e1', q2, q3, t_set q4 hap hk _⟩ (fun j hj => ?_)⟩
    rw [vpV_map _ hj, toNat_a h0, up_at]
    unfold updV
    by_cases e : j = k
    · subst e
      rw [if_pos rfl, if_pos rfl]; exact hfv.symm
    · rw [if_neg e, if_neg (by omega), vpV_map _ hj]
  have hW' : WT ks (up h a k x) := by
    refine hW.set g1 ?_ (fun j hj => up_ne (by have := toNat_a h0; omega))
    have e5 : up h a k x (a.toNat : Nat) = fun j => if j = (k : Int) then x else h a j := by
      rw [toNat_a h0]; funext j; exact up_at
    rw [e5]
    exact g6.field g2 (by rw [g3]; exact (by rw [hty]; exact hv0)) (fun hq y hy => hnl (by omega) y (by rw [← g3, Nat.mod_eq_of_lt hq]; exact hy))
  have hS' := hS.put (k := f.slot) e2 e3 (show fre G _ from Nat.le_add_right _ _)
  exact kk p e s m args below meth c0 H' _ L ks ks0 C hS' hR' hW' hl hol hst hon hle hn0
theorem p_putr {idx c t : Nat} {a x : Int} {Cn : String} (hd : decode M.2.1 pc = .ok (.putfield idx, 3)) (k : Nat) (hl0 : Cond.fieldLink M.1.cls idx (cT c k).1 (cT c k).2.1 (cT c k).2.2.1 ∈ lw_good) (hc : c < 12) (hk : k < cN c) (ht : t = c ∨ t = c + 50) (h0 : 0 ≤ a) (hty : cty c k = .object Cn) (hfin : (cT c k).2.2.2 = false) (hnl : t = c → ∀ y ∈ lay c, y.1 ≠ k) (kk : PW G M rm mc ms tk n0 K (pc + 3) ls st kn cells slots (up h a k x)) : PW G M rm mc ms tk n0 K pc ls (vr (ccode Cn) x 0 :: vr t a 0 :: st) kn cells slots h := by
  intro p e s m args below meth c0 H locs L ks ks0 C hS hR hW hl hol hos hon hle hn0
  have hv0 := (List.forall_mem_cons.mp hos).1
  have hv1 := (List.forall_mem_cons.mp (List.forall_mem_cons.mp hos).2).1
  have hst := (List.forall_mem_cons.mp (List.forall_mem_cons.mp hos).2).2
  obtain ⟨q, g1, g2, g3, g4, g5, g6, r, h1, cell, q1, q2, q3, q4⟩ := cell_of hR hW ht hc h0 hv1
  have hr : r = (cR c, cT c, cN c) := Option.some.inj (h1.symm.trans (cl_at hc))
  subst hr
  have ht2 : t ≠ 200 := by omega
  rw [List.map_cons, List.map_cons, tv_ref _ ht2 h0]
  have hts := C.2.2.2.2.2.1
  have hin := ciw hc
  have hK := C.2.2.2.2.2.2.2.2.1.1
  have hap := va_apart (own := M.1.cls) hts hin (cty c) (cty_ok hc) (cnm hc) hK (cl_at hc)
  obtain ⟨hS1, hfc, kC, hkC, hkind⟩ := hK.1 c _ (cl_at hc)
  obtain ⟨cf, kf, fi, f, hi, hsl⟩ := hS1 k hk
  have hlay := hts _ (hin _ (u_in_lay hk))
  unfold u_lay at hlay
  rw [if_neg (by rw [hfin]; decide)] at hlay
  have hty2 : ∀ t, cty c k ≠ .array t ∨ True := fun _ => Or.inr trivial
  have hfv : fv G.2.2.2.1 (cty c k) x = tv G.2.2.2.1 (vr (ccode Cn) x 0) := by
    rw [hty, ← gpv_tv]; rfl
  have hst1 := (u_facts hfc hkC (u_lays hts hin hk) hi).1
  have hn : narrow (cty c k) (tv G.2.2.2.1 (vr (ccode Cn) x 0)) = tv G.2.2.2.1 (vr (ccode Cn) x 0) := by
    rw [hty, ← gpv_tv_obj]; exact rv_narrow _ _ _
  have hfit : fits (cty c k) (tv G.2.2.2.1 (vr (ccode Cn) x 0)) = true := by
    rw [hty, ← gpv_tv_obj]; exact rv_fits _ _ _
  have h6 := u_store hfc hkC hkind hlay hi (cty_ok hc k hk) hn hfit
  refine W.putK C.1 C.2.1 (f := f) ⟨C.2.2.2.2.1, hts _ hl0, ⟨_, _, _, hi⟩, hst1⟩ (by rw [q2]; exact h6) q1 q3 (by rw [hsl]; exact k2_hasslot (q4 k hk)) rfl rfl hd fun H' e1 e2 e3 => ?_
  have e1' : H'[G.2.2.2.1 + a.toNat]? = some (cell.setSlot (G.2.1.2 c k) (tv G.2.2.2.1 (vr (ccode Cn) x 0))) := by rw [← hsl]; exact e1
  have hR' : RepH G ks (up h a k x) H' := by
    refine hR.set g1 ?_ e2 e3 (fun j hj => up_ne (by have := toNat_a h0; omega))
    rw [ec_obj _ _ _ g2, g3]
    refine ⟨_, cl_at hc, t_OB.to (V := updV (vp_V ((List.range (cN c)).map (fun k => fv G.2.2.2.1 (cty c k) (h a k)))) k (tv G.2.2.2.1 (vr (ccode Cn) x 0))) ⟨_, e1', q2, q3, t_set q4 hap hk _⟩ (fun j hj => ?_)⟩
    rw [vpV_map _ hj, toNat_a h0, up_at]
    unfold updV
    by_cases e : j = k
    · subst e
      rw [if_pos rfl, if_pos rfl]; exact hfv.symm
    · rw [if_neg e, if_neg (by omega), vpV_map _ hj]
  have hW' : WT ks (up h a k x) := by
    refine hW.set g1 ?_ (fun j hj => up_ne (by have := toNat_a h0; omega))
    have e5 : up h a k x (a.toNat : Nat) = fun j => if j = (k : Int) then x else h a j := by
      rw [toNat_a h0]; funext j; exact up_at
    rw [e5]
    exact g6.field g2 (by rw [g3]; exact (by rw [hty]; exact okr_of hv0)) (fun hq y hy => hnl (by omega) y (by rw [← g3, Nat.mod_eq_of_lt hq]; exact hy))
  have hS' := hS.put (k := f.slot) e2 e3 (show fre G _ from Nat.le_add_right _ _)
  exact kk p e s m args below meth c0 H' _ L ks ks0 C hS' hR' hW' hl hol hst hon hle hn0
theorem p_putrF {idx c t : Nat} {a x : Int} {Cn : String} (hd : decode M.2.1 pc = .ok (.putfield idx, 3)) (k : Nat) (hl0 : Cond.fieldLink M.1.cls idx (cT c k).1 (cT c k).2.1 (cT c k).2.2.1 ∈ lw_good) (hc : c < 12) (hk : k < cN c) (ht : t = c ∨ t = c + 50) (h0 : 0 ≤ a) (hty : cty c k = .object Cn) (hfin : (cT c k).2.2.2 = true) (hini : M.1.name = "<init>") (hown : (cT c k).1 = M.1.cls) (hraw : t = c + 50) (hnl : t = c → ∀ y ∈ lay c, y.1 ≠ k) (kk : PW G M rm mc ms tk n0 K (pc + 3) ls st kn cells slots (up h a k x)) : PW G M rm mc ms tk n0 K pc ls (vr (ccode Cn) x 0 :: vr t a 0 :: st) kn cells slots h := by
  intro p e s m args below meth c0 H locs L ks ks0 C hS hR hW hl hol hos hon hle hn0
  have hv0 := (List.forall_mem_cons.mp hos).1
  have hv1 := (List.forall_mem_cons.mp (List.forall_mem_cons.mp hos).2).1
  have hst := (List.forall_mem_cons.mp (List.forall_mem_cons.mp hos).2).2
  obtain ⟨q, g1, g2, g3, g4, g5, g6, r, h1, cell, q1, q2, q3, q4⟩ := cell_of hR hW ht hc h0 hv1
  have hr : r = (cR c, cT c, cN c) := Option.some.inj (h1.symm.trans (cl_at hc))
  subst hr
  have ht2 : t ≠ 200 := by omega
  rw [List.map_cons, List.map_cons, tv_ref _ ht2 h0]
  have hts := C.2.2.2.2.2.1
  have hin := ciw hc
  have hK := C.2.2.2.2.2.2.2.2.1.1
  have hap := va_apart (own := M.1.cls) hts hin (cty c) (cty_ok hc) (cnm hc) hK (cl_at hc)
  obtain ⟨hS1, hfc, kC, hkC, hkind⟩ := hK.1 c _ (cl_at hc)
  obtain ⟨cf, kf, fi, f, hi, hsl⟩ := hS1 k hk
  have hlay := hts _ (hin _ (u_in_lay hk))
  unfold u_lay at hlay
  rw [if_pos hfin] at hlay
  have hty2 : ∀ t, cty c k ≠ .array t ∨ True := fun _ => Or.inr trivial
  have hfv : fv G.2.2.2.1 (cty c k) x = tv G.2.2.2.1 (vr (ccode Cn) x 0) := by
    rw [hty, ← gpv_tv]; rfl
  have hst1 := (u_facts hfc hkC (u_lays hts hin hk) hi).1
  have hn : narrow (cty c k) (tv G.2.2.2.1 (vr (ccode Cn) x 0)) = tv G.2.2.2.1 (vr (ccode Cn) x 0) := by
    rw [hty, ← gpv_tv_obj]; exact rv_narrow _ _ _
  have hfit : fits (cty c k) (tv G.2.2.2.1 (vr (ccode Cn) x 0)) = true := by
    rw [hty, ← gpv_tv_obj]; exact rv_fits _ _ _
  have hcf : m.cls = cf := by
    obtain ⟨_, _, c', _, _, _, -, -, hf', -, -, -, hown2, -⟩ := Cond.laysFinal_spec hlay
    have e1 : c' = cf := by have := hi.symm.trans hf'; simp at this; exact this.1.symm
    rw [hown] at hown2
    rw [← e1]; exact Option.some.inj (C.2.2.2.2.1.symm.trans hown2)
  have h6 := u_fits hfc hkC hkind (Or.inr hlay) hi (cty_ok hc k hk) hn hfit
  refine W.putFinK C.1 C.2.1 C.2.2.2.2.1 (hts _ hl0) hi hst1 hcf (C.2.2.2.2.2.2.2.1.trans hini) (by rw [q2]; exact h6) q1 q3 (by rw [hsl]; exact k2_hasslot (q4 k hk)) rfl rfl hd fun H' e1 e2 e3 => ?_
  have e1' : H'[G.2.2.2.1 + a.toNat]? = some (cell.setSlot (G.2.1.2 c k) (tv G.2.2.2.1 (vr (ccode Cn) x 0))) := by rw [← hsl]; exact e1
  have hR' : RepH G ks (up h a k x) H' := by
    refine hR.set g1 ?_ e2 e3 (fun j hj => up_ne (by have := toNat_a h0; omega))
    rw [ec_obj _ _ _ g2, g3]
    refine ⟨_, cl_at hc, t_OB.to (V := updV (vp_V ((List.range (cN c)).map (fun k => fv G.2.2.2.1 (cty c k) (h a k)))) k (tv G.2.2.2.1 (vr (ccode Cn) x 0))) ⟨_, e1', q2, q3, t_set q4 hap hk _⟩ (fun j hj => ?_)⟩
    rw [vpV_map _ hj, toNat_a h0, up_at]
    unfold updV
    by_cases e : j = k
    · subst e
      rw [if_pos rfl, if_pos rfl]; exact hfv.symm
    · rw [if_neg e, if_neg (by omega), vpV_map _ hj]
  have hW' : WT ks (up h a k x) := by
    refine hW.set g1 ?_ (fun j hj => up_ne (by have := toNat_a h0; omega))
    have e5 : up h a k x (a.toNat : Nat) = fun j => if j = (k : Int) then x else h a j := by
      rw [toNat_a h0]; funext j; exact up_at
    rw [e5]
    exact g6.field g2 (by rw [g3]; exact (by rw [hty]; exact okr_of hv0)) (fun hq y hy => hnl (by omega) y (by rw [← g3, Nat.mod_eq_of_lt hq]; exact hy))
  have hS' := hS.put (k := f.slot) e2 e3 (show fre G _ from Nat.le_add_right _ _)
  exact kk p e s m args below meth c0 H' _ L ks ks0 C hS' hR' hW' hl hol hst hon hle hn0
theorem p_putaF {idx c t : Nat} {a x nq : Int} {ta : FieldType} {tq : Nat} (hd : decode M.2.1 pc = .ok (.putfield idx, 3)) (k : Nat) (hl0 : Cond.fieldLink M.1.cls idx (cT c k).1 (cT c k).2.1 (cT c k).2.2.1 ∈ lw_good) (hc : c < 12) (hk : k < cN c) (ht : t = c ∨ t = c + 50) (h0 : 0 ≤ a) (hty : cty c k = .array ta) (hfin : (cT c k).2.2.2 = true) (hini : M.1.name = "<init>") (hown : (cT c k).1 = M.1.cls) (hraw : t = c + 50) (htq : tq ≠ 200) (hnl : t = c → ∀ y ∈ lay c, y.1 ≠ k) (kk : PW G M rm mc ms tk n0 K (pc + 3) ls st kn cells slots (up h a k x)) : PW G M rm mc ms tk n0 K pc ls (vr tq x nq :: vr t a 0 :: st) kn cells slots h := by
  intro p e s m args below meth c0 H locs L ks ks0 C hS hR hW hl hol hos hon hle hn0
  have hv0 := (List.forall_mem_cons.mp hos).1
  have hv1 := (List.forall_mem_cons.mp (List.forall_mem_cons.mp hos).2).1
  have hst := (List.forall_mem_cons.mp (List.forall_mem_cons.mp hos).2).2
  obtain ⟨q, g1, g2, g3, g4, g5, g6, r, h1, cell, q1, q2, q3, q4⟩ := cell_of hR hW ht hc h0 hv1
  have hr : r = (cR c, cT c, cN c) := Option.some.inj (h1.symm.trans (cl_at hc))
  subst hr
  have ht2 : t ≠ 200 := by omega
  rw [List.map_cons, List.map_cons, tv_ref _ ht2 h0]
  have hts := C.2.2.2.2.2.1
  have hin := ciw hc
  have hK := C.2.2.2.2.2.2.2.2.1.1
  have hap := va_apart (own := M.1.cls) hts hin (cty c) (cty_ok hc) (cnm hc) hK (cl_at hc)
  obtain ⟨hS1, hfc, kC, hkC, hkind⟩ := hK.1 c _ (cl_at hc)
  obtain ⟨cf, kf, fi, f, hi, hsl⟩ := hS1 k hk
  have hlay := hts _ (hin _ (u_in_lay hk))
  unfold u_lay at hlay
  rw [if_pos hfin] at hlay
  have hty2 : ∀ t, cty c k ≠ .array t ∨ True := fun _ => Or.inr trivial
  have hfv : fv G.2.2.2.1 (cty c k) x = tv G.2.2.2.1 (vr tq x nq) := by
    rw [hty]; show rv _ x = (if tq = 200 then _ else rv _ x); rw [if_neg htq]
  have hst1 := (u_facts hfc hkC (u_lays hts hin hk) hi).1
  have hn : narrow (cty c k) (tv G.2.2.2.1 (vr tq x nq)) = tv G.2.2.2.1 (vr tq x nq) := by
    rw [hty]; show narrow _ (if tq = 200 then _ else rv _ x) = (if tq = 200 then _ else rv _ x); rw [if_neg htq]; exact rv_narrowA _ _ _
  have hfit : fits (cty c k) (tv G.2.2.2.1 (vr tq x nq)) = true := by
    rw [hty]; show fits _ (if tq = 200 then _ else rv _ x) = true; rw [if_neg htq]; exact rv_fitsA _ _ _
  have hcf : m.cls = cf := by
    obtain ⟨_, _, c', _, _, _, -, -, hf', -, -, -, hown2, -⟩ := Cond.laysFinal_spec hlay
    have e1 : c' = cf := by have := hi.symm.trans hf'; simp at this; exact this.1.symm
    rw [hown] at hown2
    rw [← e1]; exact Option.some.inj (C.2.2.2.2.1.symm.trans hown2)
  have h6 := u_fits hfc hkC hkind (Or.inr hlay) hi (cty_ok hc k hk) hn hfit
  refine W.putFinK C.1 C.2.1 C.2.2.2.2.1 (hts _ hl0) hi hst1 hcf (C.2.2.2.2.2.2.2.1.trans hini) (by rw [q2]; exact h6) q1 q3 (by rw [hsl]; exact k2_hasslot (q4 k hk)) rfl rfl hd fun H' e1 e2 e3 => ?_
  have e1' : H'[G.2.2.2.1 + a.toNat]? = some (cell.setSlot (G.2.1.2 c k) (tv G.2.2.2.1 (vr tq x nq))) := by rw [← hsl]; exact e1
  have hR' : RepH G ks (up h a k x) H' := by
    refine hR.set g1 ?_ e2 e3 (fun j hj => up_ne (by have := toNat_a h0; omega))
    rw [ec_obj _ _ _ g2, g3]
    refine ⟨_, cl_at hc, t_OB.to (V := updV (vp_V ((List.range (cN c)).map (fun k => fv G.2.2.2.1 (cty c k) (h a k)))) k (tv G.2.2.2.1 (vr tq x nq))) ⟨_, e1', q2, q3, t_set q4 hap hk _⟩ (fun j hj => ?_)⟩
    rw [vpV_map _ hj, toNat_a h0, up_at]
    unfold updV
    by_cases e : j = k
    · subst e
      rw [if_pos rfl, if_pos rfl]; exact hfv.symm
    · rw [if_neg e, if_neg (by omega), vpV_map _ hj]
  have hW' : WT ks (up h a k x) := by
    refine hW.set g1 ?_ (fun j hj => up_ne (by have := toNat_a h0; omega))
    have e5 : up h a k x (a.toNat : Nat) = fun j => if j = (k : Int) then x else h a j := by
      rw [toNat_a h0]; funext j; exact up_at
    rw [e5]
    exact g6.field g2 (by rw [g3]; exact (by rw [hty]; exact okv_ge hv0 htq)) (fun hq y hy => hnl (by omega) y (by rw [← g3, Nat.mod_eq_of_lt hq]; exact hy))
  have hS' := hS.put (k := f.slot) e2 e3 (show fre G _ from Nat.le_add_right _ _)
  exact kk p e s m args below meth c0 H' _ L ks ks0 C hS' hR' hW' hl hol hst hon hle hn0
end PR3
end
section
/-! rules of PW, 4: arrays -/
theorem arr_of {G : Gx} {ks : List Kd} {h : Hh} {H : Heap} {t : Nat} {a n : Int} (hR : RepH G ks h H) (hW : WT ks h) (ht : 100 ≤ t) (ht2 : t ≠ 200) (h0 : 0 ≤ a) (hv : okv G ks (vr t a n)) : ∃ N : Nat, (N : Int) = n ∧ ks[a.toNat]? = some (t, N) ∧ okc ks (h a) a.toNat (t, N) ∧ H[G.2.2.2.1 + a.toNat]? = some (vp_cell (G.2.2.1 t) (N, ar G.2.2.2.1 t (h a))) := by
  obtain ⟨⟨q1, q2⟩, h1, h2, h3⟩ := okv_ref hv ht2 h0
  dsimp only at h2 h3
  subst h3
  have h4 := hR.2 _ _ h1
  have h5 := hW.2 _ _ h1
  rw [ec_arr _ _ _ (by show ¬ q1 < 100; omega), toNat_a h0] at h4
  rw [toNat_a h0] at h5
  exact ⟨q2, h2, h1, h5, h4⟩
theorem okv_r {G : Gx} {ks : List Kd} {t : Nat} {x : Int} (ht : t ≠ 200) (h : okr ks t x) : okv G ks (vr t x 0) := by
  show (if t = 200 then _ else _)
  rw [if_neg ht]
  rcases h with h | ⟨h0, h1⟩
  · exact Or.inl h
  · exact Or.inr ⟨h0, _, h1, rfl, rfl⟩
theorem ix_cl {i : Int} {N : Nat} (h1 : 0 ≤ i) (h2 : i < N) (hN : N < 65536) : vp_in (i32 i) N ∧ (i32 i).toNatClampNeg = i.toNat := by
  have e : (i32 i).toInt = i := i32_toInt ⟨by omega, by omega⟩
  refine ⟨vp_in_iff.mpr ⟨by rw [e]; exact h1, by rw [e]; exact h2⟩, ?_⟩
  show (i32 i).toInt.toNat = _
  rw [e]
theorem okc.elem {ks : List Kd} {f : Int → Int} {i N t : Nat} (h : okc ks f i (t, N)) (ht : 100 ≤ t) (ht5 : t ≠ 105) {j x : Int} (hj : 0 ≤ j) (h0 : t = 100 → r32 x) (h1 : t = 101 → r64 x) (h2 : t = 102 → -128 ≤ x ∧ x < 128) (h3 : t = 103 → okr ks 7 x) (h4 : t = 104 → okr ks 0 x) : okc ks (fun p => if p = j then x else f p) i (t, N) := by
  obtain ⟨a1, a2, a3, a4, a5, a6, a7, a8, a9, a10⟩ := h
  dsimp only at a1 a2 a3 a4 a5 a6 a7 a8 a9 a10
  refine ⟨fun e => by dsimp only at e; omega, fun e => by dsimp only at e; omega, fun e k hk => ?_, fun e k hk => ?_, fun e k hk => ?_, fun e k hk => ?_, fun e k hk => ?_, fun e => by dsimp only at e; omega, a9, a10⟩
  · show r32 (if (k : Int) = j then x else f k)
    split
    · exact h0 e
    · exact a3 e k hk
  · show r64 (if (k : Int) = j then x else f k)
    split
    · exact h1 e
    · exact a4 e k hk
  · show -128 ≤ (if (k : Int) = j then x else f k) ∧ (if (k : Int) = j then x else f k) < 128
    split
    · exact h2 e
    · exact a5 e k hk
  · show okr ks 7 (if (k : Int) = j then x else f k)
    split
    · exact h3 e
    · exact a6 e k hk
  · show okr ks 0 (if (k : Int) = j then x else f k)
    split
    · exact h4 e
    · exact a7 e k hk
section PR4
variable {G : Gx} {M : MD} {rm : Room} {mc ms : Nat} {tk : List PV} {n0 : Int} {K : Int → Hh → Prop} {pc : Nat} {ls : List (Nat × PV)} {st kn : List PV} {cells slots : Nat} {h : Hh}
theorem p_iald {a n i : Int} (hd : decode M.2.1 pc = .ok (.iaload, 1)) (h0 : 0 ≤ a) (hi : 0 ≤ i ∧ i < n) (kk : PW G M rm mc ms tk n0 K (pc + 1) ls (vi (h a i) :: st) kn cells slots h) : PW G M rm mc ms tk n0 K pc ls (vi i :: vr 100 a n :: st) kn cells slots h := by
  intro p e s m args below meth c0 H locs L ks ks0 C hS hR hW hl hol hos hon hle hn0
  have hvi := (List.forall_mem_cons.mp hos).1
  have hva := (List.forall_mem_cons.mp (List.forall_mem_cons.mp hos).2).1
  have hst := (List.forall_mem_cons.mp (List.forall_mem_cons.mp hos).2).2
  obtain ⟨N, hN, g1, g2, g3⟩ := arr_of hR hW (by omega) (by omega) h0 hva
  obtain ⟨hin, hcl⟩ := ix_cl hi.1 (by rw [hN]; exact hi.2) (g2.2.2.2.2.2.2.2.2.2)
  have hlt : i.toNat < N := by omega
  rw [List.map_cons, List.map_cons, tv_ref _ (by omega) h0]
  have hr : r32 (h a i) := by
    have := g2.2.2.1 rfl i.toNat hlt
    rw [toNat_a hi.1] at this
    exact this
  refine W.iald C.1 C.2.1 (v := .int (i32 (h a i))) g3 ((C.2.2.2.2.2.2.2.2.1.1.2 0 _ rfl).1 N (fun j => .int (i32 (h a (j : Int))))) (fun q => by cases q) (by show ¬ (_ ∨ (arrV _ _ _).slots.size ≤ _); rw [arrV_size]; exact hin) ?_ rfl rfl hd ?_
  · show (arrV _ _ (fun j => .int (i32 (h a (j : Int))))).slots[_]? = _
    rw [hcl, arrV_read _ _ hlt, toNat_a hi.1]
  · exact kk p e s m args below meth c0 H locs L ks ks0 C hS hR hW hl hol (List.forall_mem_cons.mpr ⟨hr, hst⟩) hon hle hn0
theorem p_lald {a n i : Int} (hd : decode M.2.1 pc = .ok (.laload, 1)) (h0 : 0 ≤ a) (hi : 0 ≤ i ∧ i < n) (kk : PW G M rm mc ms tk n0 K (pc + 1) ls (vl (h a i) :: st) kn cells slots h) : PW G M rm mc ms tk n0 K pc ls (vi i :: vr 101 a n :: st) kn cells slots h := by
  intro p e s m args below meth c0 H locs L ks ks0 C hS hR hW hl hol hos hon hle hn0
  have hvi := (List.forall_mem_cons.mp hos).1
  have hva := (List.forall_mem_cons.mp (List.forall_mem_cons.mp hos).2).1
  have hst := (List.forall_mem_cons.mp (List.forall_mem_cons.mp hos).2).2
  obtain ⟨N, hN, g1, g2, g3⟩ := arr_of hR hW (by omega) (by omega) h0 hva
  obtain ⟨hin, hcl⟩ := ix_cl hi.1 (by rw [hN]; exact hi.2) (g2.2.2.2.2.2.2.2.2.2)
  have hlt : i.toNat < N := by omega
  rw [List.map_cons, List.map_cons, tv_ref _ (by omega) h0]
  have hr : r64 (h a i) := by
    have := g2.2.2.2.1 rfl i.toNat hlt
    rw [toNat_a hi.1] at this
    exact this
  refine W.lald C.1 C.2.1 (v := .long (i64 (h a i))) g3 ((C.2.2.2.2.2.2.2.2.1.1.2 1 _ rfl).1 N (fun j => .long (i64 (h a (j : Int))))) (fun q => by cases q) (by show ¬ (_ ∨ (arrV _ _ _).slots.size ≤ _); rw [arrV_size]; exact hin) ?_ rfl rfl hd ?_
  · show (arrV _ _ (fun j => .long (i64 (h a (j : Int))))).slots[_]? = _
    rw [hcl, arrV_read _ _ hlt, toNat_a hi.1]
  · exact kk p e s m args below meth c0 H locs L ks ks0 C hS hR hW hl hol (List.forall_mem_cons.mpr ⟨hr, hst⟩) hon hle hn0
theorem p_bald {a n i : Int} (hd : decode M.2.1 pc = .ok (.baload, 1)) (h0 : 0 ≤ a) (hi : 0 ≤ i ∧ i < n) (kk : PW G M rm mc ms tk n0 K (pc + 1) ls (vi (h a i) :: st) kn cells slots h) : PW G M rm mc ms tk n0 K pc ls (vi i :: vr 102 a n :: st) kn cells slots h := by
  intro p e s m args below meth c0 H locs L ks ks0 C hS hR hW hl hol hos hon hle hn0
  have hvi := (List.forall_mem_cons.mp hos).1
  have hva := (List.forall_mem_cons.mp (List.forall_mem_cons.mp hos).2).1
  have hst := (List.forall_mem_cons.mp (List.forall_mem_cons.mp hos).2).2
  obtain ⟨N, hN, g1, g2, g3⟩ := arr_of hR hW (by omega) (by omega) h0 hva
  obtain ⟨hin, hcl⟩ := ix_cl hi.1 (by rw [hN]; exact hi.2) (g2.2.2.2.2.2.2.2.2.2)
  have hlt : i.toNat < N := by omega
  rw [List.map_cons, List.map_cons, tv_ref _ (by omega) h0]
  have hr : r32 (h a i) := by
    have := g2.2.2.2.2.1 rfl i.toNat hlt
    rw [toNat_a hi.1] at this
    unfold r32; omega
  refine W.bald C.1 C.2.1 (v := .int (i32 (h a i))) g3 ((C.2.2.2.2.2.2.2.2.1.1.2 2 _ rfl).1 N (fun j => .int (i32 (h a (j : Int))))) (fun q => by cases q) (by show ¬ (_ ∨ (arrV _ _ _).slots.size ≤ _); rw [arrV_size]; exact hin) ?_ rfl rfl hd ?_
  · show (arrV _ _ (fun j => .int (i32 (h a (j : Int))))).slots[_]? = _
    rw [hcl, arrV_read _ _ hlt, toNat_a hi.1]
  · exact kk p e s m args below meth c0 H locs L ks ks0 C hS hR hW hl hol (List.forall_mem_cons.mpr ⟨hr, hst⟩) hon hle hn0
theorem p_iast {a n i x : Int} (hd : decode M.2.1 pc = .ok (.iastore, 1)) (h0 : 0 ≤ a) (hi : 0 ≤ i ∧ i < n) (kk : PW G M rm mc ms tk n0 K (pc + 1) ls st kn cells slots (up h a i x)) : PW G M rm mc ms tk n0 K pc ls (vi x :: vi i :: vr 100 a n :: st) kn cells slots h := by
  intro p e s m args below meth c0 H locs L ks ks0 C hS hR hW hl hol hos hon hle hn0
  have hvx := (List.forall_mem_cons.mp hos).1
  have hvi := (List.forall_mem_cons.mp (List.forall_mem_cons.mp hos).2).1
  have hva := (List.forall_mem_cons.mp (List.forall_mem_cons.mp (List.forall_mem_cons.mp hos).2).2).1
  have hst := (List.forall_mem_cons.mp (List.forall_mem_cons.mp (List.forall_mem_cons.mp hos).2).2).2
  obtain ⟨N, hN, g1, g2, g3⟩ := arr_of hR hW (by omega) (by omega) h0 hva
  obtain ⟨hin, hcl⟩ := ix_cl hi.1 (by rw [hN]; exact hi.2) (g2.2.2.2.2.2.2.2.2.2)
  have hlt : i.toNat < N := by omega
  rw [List.map_cons, List.map_cons, List.map_cons, tv_ref _ (by omega) h0]
  refine W.iast C.1 C.2.1 g3 ((C.2.2.2.2.2.2.2.2.1.1.2 0 _ rfl).1 N (fun j => .int (i32 (h a (j : Int))))) (fun q => by cases q) (by show ¬ (_ ∨ (arrV _ _ _).slots.size ≤ _); rw [arrV_size]; exact hin) rfl rfl hd fun H' e1 z oq => ?_
  have hR' : RepH G ks (up h a i x) H' := by
    refine hR.set g1 ?_ z oq (fun j hj => up_ne (by have := toNat_a h0; omega))
    rw [ec_arr _ _ _ (by show ¬ 100 < 100; omega)]
    show H'[_]? = some (vp_cell _ _)
    rw [e1]
    show some ((arrV _ _ (fun j => Value.int (i32 (h a (j : Int))))).setSlot _ _) = some (arrV _ _ (fun j => Value.int (i32 (up h a i x (a.toNat : Nat) (j : Int)))))
    rw [hcl, arrV_store]
    congr 2
    funext j
    rw [toNat_a h0]
    unfold updV
    by_cases hj : j = i.toNat
    · rw [if_pos hj, up_at, if_pos (by omega)]
    · rw [if_neg hj, up_at, if_neg (by omega)]
  have hW' : WT ks (up h a i x) := by
    refine hW.set g1 ?_ (fun j hj => up_ne (by have := toNat_a h0; omega))
    have e5 : up h a i x (a.toNat : Nat) = fun j => if j = i then x else h a j := by
      rw [toNat_a h0]; funext j; exact up_at
    rw [e5]
    exact g2.elem (by omega) (by omega) hi.1 (fun e => hvx) (fun e => by omega) (fun e => by omega) (fun e => by omega) (fun e => by omega)
  have hS' := hS.put (k := (i32 i).toNatClampNeg) z oq (show fre G _ from Nat.le_add_right _ _)
  exact kk p e s m args below meth c0 H' _ L ks ks0 C hS' hR' hW' hl hol hst hon hle hn0
theorem p_last {a n i x : Int} (hd : decode M.2.1 pc = .ok (.lastore, 1)) (h0 : 0 ≤ a) (hi : 0 ≤ i ∧ i < n) (kk : PW G M rm mc ms tk n0 K (pc + 1) ls st kn cells slots (up h a i x)) : PW G M rm mc ms tk n0 K pc ls (vl x :: vi i :: vr 101 a n :: st) kn cells slots h := by
  intro p e s m args below meth c0 H locs L ks ks0 C hS hR hW hl hol hos hon hle hn0
  have hvx := (List.forall_mem_cons.mp hos).1
  have hvi := (List.forall_mem_cons.mp (List.forall_mem_cons.mp hos).2).1
  have hva := (List.forall_mem_cons.mp (List.forall_mem_cons.mp (List.forall_mem_cons.mp hos).2).2).1
  have hst := (List.forall_mem_cons.mp (List.forall_mem_cons.mp (List.forall_mem_cons.mp hos).2).2).2
  obtain ⟨N, hN, g1, g2, g3⟩ := arr_of hR hW (by omega) (by omega) h0 hva
  obtain ⟨hin, hcl⟩ := ix_cl hi.1 (by rw [hN]; exact hi.2) (g2.2.2.2.2.2.2.2.2.2)
  have hlt : i.toNat < N := by omega
  rw [List.map_cons, List.map_cons, List.map_cons, tv_ref _ (by omega) h0]
  refine W.last C.1 C.2.1 g3 ((C.2.2.2.2.2.2.2.2.1.1.2 1 _ rfl).1 N (fun j => .long (i64 (h a (j : Int))))) (fun q => by cases q) (by show ¬ (_ ∨ (arrV _ _ _).slots.size ≤ _); rw [arrV_size]; exact hin) rfl rfl hd fun H' e1 z oq => ?_
  have hR' : RepH G ks (up h a i x) H' := by
    refine hR.set g1 ?_ z oq (fun j hj => up_ne (by have := toNat_a h0; omega))
    rw [ec_arr _ _ _ (by show ¬ 101 < 100; omega)]
    show H'[_]? = some (vp_cell _ _)
    rw [e1]
    show some ((arrV _ _ (fun j => Value.long (i64 (h a (j : Int))))).setSlot _ _) = some (arrV _ _ (fun j => Value.long (i64 (up h a i x (a.toNat : Nat) (j : Int)))))
    rw [hcl, arrV_store]
    congr 2
    funext j
    rw [toNat_a h0]
    unfold updV
    by_cases hj : j = i.toNat
    · rw [if_pos hj, up_at, if_pos (by omega)]
    · rw [if_neg hj, up_at, if_neg (by omega)]
  have hW' : WT ks (up h a i x) := by
    refine hW.set g1 ?_ (fun j hj => up_ne (by have := toNat_a h0; omega))
    have e5 : up h a i x (a.toNat : Nat) = fun j => if j = i then x else h a j := by
      rw [toNat_a h0]; funext j; exact up_at
    rw [e5]
    exact g2.elem (by omega) (by omega) hi.1 (fun e => by omega) (fun e => hvx) (fun e => by omega) (fun e => by omega) (fun e => by omega)
  have hS' := hS.put (k := (i32 i).toNatClampNeg) z oq (show fre G _ from Nat.le_add_right _ _)
  exact kk p e s m args below meth c0 H' _ L ks ks0 C hS' hR' hW' hl hol hst hon hle hn0
theorem p_bast {a n i x : Int} (hd : decode M.2.1 pc = .ok (.bastore, 1)) (h0 : 0 ≤ a) (hi : 0 ≤ i ∧ i < n) (hb : -128 ≤ x ∧ x < 128) (hb2 : (i32 x).toInt8.toInt32 = i32 x) (kk : PW G M rm mc ms tk n0 K (pc + 1) ls st kn cells slots (up h a i x)) : PW G M rm mc ms tk n0 K pc ls (vi x :: vi i :: vr 102 a n :: st) kn cells slots h := by
  intro p e s m args below meth c0 H locs L ks ks0 C hS hR hW hl hol hos hon hle hn0
  have hvx := (List.forall_mem_cons.mp hos).1
  have hvi := (List.forall_mem_cons.mp (List.forall_mem_cons.mp hos).2).1
  have hva := (List.forall_mem_cons.mp (List.forall_mem_cons.mp (List.forall_mem_cons.mp hos).2).2).1
  have hst := (List.forall_mem_cons.mp (List.forall_mem_cons.mp (List.forall_mem_cons.mp hos).2).2).2
  obtain ⟨N, hN, g1, g2, g3⟩ := arr_of hR hW (by omega) (by omega) h0 hva
  obtain ⟨hin, hcl⟩ := ix_cl hi.1 (by rw [hN]; exact hi.2) (g2.2.2.2.2.2.2.2.2.2)
  have hlt : i.toNat < N := by omega
  rw [List.map_cons, List.map_cons, List.map_cons, tv_ref _ (by omega) h0]
  refine W.bast C.1 C.2.1 g3 ((C.2.2.2.2.2.2.2.2.1.1.2 2 _ rfl).1 N (fun j => .int (i32 (h a (j : Int))))) (fun q => by cases q) (by show ¬ (_ ∨ (arrV _ _ _).slots.size ≤ _); rw [arrV_size]; exact hin) rfl rfl hd fun H' e1 z oq => ?_
  have hnb : narrow .byte (.int (i32 x)) = .int (i32 x) := by
    have := pk_nb (i32 x)
    rw [hb2] at this
    exact this
  have hR' : RepH G ks (up h a i x) H' := by
    refine hR.set g1 ?_ z oq (fun j hj => up_ne (by have := toNat_a h0; omega))
    rw [ec_arr _ _ _ (by show ¬ 102 < 100; omega)]
    show H'[_]? = some (vp_cell _ _)
    rw [e1]
    show some ((arrV _ _ (fun j => Value.int (i32 (h a (j : Int))))).setSlot _ _) = some (arrV _ _ (fun j => Value.int (i32 (up h a i x (a.toNat : Nat) (j : Int)))))
    rw [hcl, arrV_store]
    congr 2
    funext j
    rw [toNat_a h0]
    unfold updV
    by_cases hj : j = i.toNat
    · rw [if_pos hj, up_at, if_pos (by omega)]; exact hnb
    · rw [if_neg hj, up_at, if_neg (by omega)]
  have hW' : WT ks (up h a i x) := by
    refine hW.set g1 ?_ (fun j hj => up_ne (by have := toNat_a h0; omega))
    have e5 : up h a i x (a.toNat : Nat) = fun j => if j = i then x else h a j := by
      rw [toNat_a h0]; funext j; exact up_at
    rw [e5]
    exact g2.elem (by omega) (by omega) hi.1 (fun e => by omega) (fun e => by omega) (fun e => hb) (fun e => by omega) (fun e => by omega)
  have hS' := hS.put (k := (i32 i).toNatClampNeg) z oq (show fre G _ from Nat.le_add_right _ _)
  exact kk p e s m args below meth c0 H' _ L ks ks0 C hS' hR' hW' hl hol hst hon hle hn0
theorem p_alen {t : Nat} {a n : Int} (hd : decode M.2.1 pc = .ok (.arraylength, 1)) (ht : 100 ≤ t ∧ t ≤ 102) (h0 : 0 ≤ a) (kk : PW G M rm mc ms tk n0 K (pc + 1) ls (vi n :: st) kn cells slots h) : PW G M rm mc ms tk n0 K pc ls (vr t a n :: st) kn cells slots h := by
  intro p e s m args below meth c0 H locs L ks ks0 C hS hR hW hl hol hos hon hle hn0
  have hva := (List.forall_mem_cons.mp hos).1
  have hst := (List.forall_mem_cons.mp hos).2
  obtain ⟨N, hN, g1, g2, g3⟩ := arr_of hR hW (by omega) (by omega) h0 hva
  have hlt := g2.2.2.2.2.2.2.2.2.2
  have hr : r32 n := by dsimp only at hlt; unfold r32; omega
  rw [List.map_cons, tv_ref _ (by omega) h0]
  have hg := kk p e s m args below meth c0 H locs L ks ks0 C hS hR hW hl hol (List.forall_mem_cons.mpr ⟨hr, hst⟩) hon hle hn0
  have en : i32 n = Int32.ofNat N := by rw [← hN]; rfl
  have hP : va_P G.2.1 vwCl [(G.2.2.2.1 + a.toNat, .inl (G.2.2.1 t, (N, ar G.2.2.2.1 t (h a))))] H := by
    intro j x hj
    have hz : j < 1 := (List.getElem?_eq_some_iff.mp hj).1
    rw [show j = 0 by omega] at hj
    cases hj
    exact g3
  rcases (show t = 100 ∨ t = 101 ∨ t = 102 by omega) with rfl | rfl | rfl
  · exact va_alen C.1 C.2.1 C.2.2.2.2.2.2.2.2.1.1 hP 0 0 rfl rfl en.symm hd hg
  · exact va_alen C.1 C.2.1 C.2.2.2.2.2.2.2.2.1.1 hP 0 1 rfl rfl en.symm hd hg
  · exact va_alen C.1 C.2.1 C.2.2.2.2.2.2.2.2.1.1 hP 0 2 rfl rfl en.symm hd hg
theorem p_aald7 {a n i : Int} (hd : decode M.2.1 pc = .ok (.aaload, 1)) (h0 : 0 ≤ a) (hi : 0 ≤ i ∧ i < n) (kk : PW G M rm mc ms tk n0 K (pc + 1) ls (vr 7 (h a i) 0 :: st) kn cells slots h) : PW G M rm mc ms tk n0 K pc ls (vi i :: vr 103 a n :: st) kn cells slots h := by
  intro p e s m args below meth c0 H locs L ks ks0 C hS hR hW hl hol hos hon hle hn0
  have hvi := (List.forall_mem_cons.mp hos).1
  have hva := (List.forall_mem_cons.mp (List.forall_mem_cons.mp hos).2).1
  have hst := (List.forall_mem_cons.mp (List.forall_mem_cons.mp hos).2).2
  obtain ⟨N, hN, g1, g2, g3⟩ := arr_of hR hW (by omega) (by omega) h0 hva
  obtain ⟨hin, hcl⟩ := ix_cl hi.1 (by rw [hN]; exact hi.2) (g2.2.2.2.2.2.2.2.2.2)
  have hlt : i.toNat < N := by omega
  rw [List.map_cons, List.map_cons, tv_ref _ (by omega) h0]
  have hr : okr ks 7 (h a i) := by
    have := g2.2.2.2.2.2.1 rfl i.toNat hlt
    rw [toNat_a hi.1] at this
    exact this
  have hok : okv G ks (vr 7 (h a i) 0) := by
    exact okv_r (by omega) hr
  have hP : va_P G.2.1 vwCl [(G.2.2.2.1 + a.toNat, .inl (G.2.2.1 103, (N, .inr (.inr (.inr (.inr (fun k => ro G.2.2.2.1 (h a k))))))))] H := by
    intro j x hj
    have hz : j < 1 := (List.getElem?_eq_some_iff.mp hj).1
    rw [show j = 0 by omega] at hj
    cases hj
    exact g3
  refine va_aldq C.1 C.2.1 C.2.2.2.2.2.2.2.2.1.1 hP 0 3 rfl rfl hin hd ?_
  rw [hcl, toNat_a hi.1, rv_ro]
  exact kk p e s m args below meth c0 H locs L ks ks0 C hS hR hW hl hol (List.forall_mem_cons.mpr ⟨hok, hst⟩) hon hle hn0
theorem p_aald0 {a n i : Int} (hd : decode M.2.1 pc = .ok (.aaload, 1)) (h0 : 0 ≤ a) (hi : 0 ≤ i ∧ i < n) (kk : PW G M rm mc ms tk n0 K (pc + 1) ls (vr 0 (h a i) 0 :: st) kn cells slots h) : PW G M rm mc ms tk n0 K pc ls (vi i :: vr 104 a n :: st) kn cells slots h := by
  intro p e s m args below meth c0 H locs L ks ks0 C hS hR hW hl hol hos hon hle hn0
  have hvi := (List.forall_mem_cons.mp hos).1
  have hva := (List.forall_mem_cons.mp (List.forall_mem_cons.mp hos).2).1
  have hst := (List.forall_mem_cons.mp (List.forall_mem_cons.mp hos).2).2
  obtain ⟨N, hN, g1, g2, g3⟩ := arr_of hR hW (by omega) (by omega) h0 hva
  obtain ⟨hin, hcl⟩ := ix_cl hi.1 (by rw [hN]; exact hi.2) (g2.2.2.2.2.2.2.2.2.2)
  have hlt : i.toNat < N := by omega
  rw [List.map_cons, List.map_cons, tv_ref _ (by omega) h0]
  have hr : okr ks 0 (h a i) := by
    have := g2.2.2.2.2.2.2.1 rfl i.toNat hlt
    rw [toNat_a hi.1] at this
    exact this
  have hok : okv G ks (vr 0 (h a i) 0) := by
    exact okv_r (by omega) hr
  have hP : va_P G.2.1 vwCl [(G.2.2.2.1 + a.toNat, .inl (G.2.2.1 104, (N, .inr (.inr (.inr (.inr (fun k => ro G.2.2.2.1 (h a k))))))))] H := by
    intro j x hj
    have hz : j < 1 := (List.getElem?_eq_some_iff.mp hj).1
    rw [show j = 0 by omega] at hj
    cases hj
    exact g3
  refine va_aldq C.1 C.2.1 C.2.2.2.2.2.2.2.2.1.1 hP 0 4 rfl rfl hin hd ?_
  rw [hcl, toNat_a hi.1, rv_ro]
  exact kk p e s m args below meth c0 H locs L ks ks0 C hS hR hW hl hol (List.forall_mem_cons.mpr ⟨hok, hst⟩) hon hle hn0
theorem p_aaldI {a n i : Int} (hd : decode M.2.1 pc = .ok (.aaload, 1)) (h0 : 0 ≤ a) (hi : 0 ≤ i ∧ i < n) (kk : PW G M rm mc ms tk n0 K (pc + 1) ls (vr 100 (a + 1 + i) 40 :: st) kn cells slots h) : PW G M rm mc ms tk n0 K pc ls (vi i :: vr 105 a n :: st) kn cells slots h := by
  intro p e s m args below meth c0 H locs L ks ks0 C hS hR hW hl hol hos hon hle hn0
  have hvi := (List.forall_mem_cons.mp hos).1
  have hva := (List.forall_mem_cons.mp (List.forall_mem_cons.mp hos).2).1
  have hst := (List.forall_mem_cons.mp (List.forall_mem_cons.mp hos).2).2
  obtain ⟨N, hN, g1, g2, g3⟩ := arr_of hR hW (by omega) (by omega) h0 hva
  obtain ⟨hin, hcl⟩ := ix_cl hi.1 (by rw [hN]; exact hi.2) (g2.2.2.2.2.2.2.2.2.2)
  have hlt : i.toNat < N := by omega
  rw [List.map_cons, List.map_cons, tv_ref _ (by omega) h0]
  obtain ⟨b1, b2⟩ := g2.2.2.2.2.2.2.2.1 rfl i.toNat hlt
  rw [toNat_a hi.1, toNat_a h0] at b1
  have hok : okv G ks (vr 100 (a + 1 + i) 40) := okv_mk (by omega) (by omega) (by rw [show (a + 1 + i).toNat = a.toNat + 1 + i.toNat by omega]; exact b2) rfl
  refine W.aald (v := tv G.2.2.2.1 (vr 100 (a + 1 + i) 40)) (ty := .array .int) C.1 C.2.1 g3 ((C.2.2.2.2.2.2.2.2.1.1.2 5 _ rfl).1 N (fun j => va_rf (ro G.2.2.2.1 (h a (j : Int))))) rfl (fun q => by cases q) (by show ¬ (_ ∨ (arrV _ _ _).slots.size ≤ _); rw [arrV_size]; exact hin) ?_ rfl rfl hd ?_
  · show (arrV _ _ (fun j => va_rf (ro G.2.2.2.1 (h a (j : Int))))).slots[_]? = _
    rw [hcl, arrV_read _ _ hlt, toNat_a hi.1, rv_ro, b1, tv_ref _ (by omega) (by omega)]
    unfold rv
    rw [if_neg (by omega)]
  · exact kk p e s m args below meth c0 H locs L ks ks0 C hS hR hW hl hol (List.forall_mem_cons.mpr ⟨hok, hst⟩) hon hle hn0
end PR4
end
