/-! words of the tables, by their places -/
theorem tb_10 : Cond.initialized "ThreadCharts$Rule" ∈ lw_good := lw_good_in (List.mem_of_getElem? (i := 112) (by decide +kernel)) (by decide +kernel)
theorem tb_12 : Cond.initialized "ThreadCharts$Chart" ∈ lw_good := lw_good_in (List.mem_of_getElem? (i := 114) (by decide +kernel)) (by decide +kernel)
theorem tb_353 : Cond.fieldLink "ThreadCharts$Rule" 15 "ThreadCharts$Rule" "terms" "I" ∈ lw_good := lw_good_in (List.mem_of_getElem? (i := 455) (by decide +kernel)) (by decide +kernel)
theorem tb_360 : Cond.fieldLink "ThreadCharts$Rule" 36 "ThreadCharts$Rule" "markCounts" "[I" ∈ lw_good := lw_good_in (List.mem_of_getElem? (i := 462) (by decide +kernel)) (by decide +kernel)
theorem tb_394 : Cond.methodLink "ThreadCharts$Rule" 47 ({ cls := "ThreadCharts$Rule", name := "hasTerm", desc := "(I)Z" } : Jvm.MethodName) ∈ lw_good := lw_good_in (List.mem_of_getElem? (i := 496) (by decide +kernel)) (by decide +kernel)
theorem tb_396 : Cond.instanceMethod ({ cls := "ThreadCharts$Rule", name := "hasTerm", desc := "(I)Z" } : Jvm.MethodName) ∈ lw_good := lw_good_in (List.mem_of_getElem? (i := 498) (by decide +kernel)) (by decide +kernel)
theorem tb_397 : Cond.code ({ cls := "ThreadCharts$Rule", name := "hasTerm", desc := "(I)Z" } : Jvm.MethodName) prog_9_method_2_code 2 (Option.some Jvm.ClassFile.FieldType.boolean) ∈ lw_good := lw_good_in (List.mem_of_getElem? (i := 499) (by decide +kernel)) (by decide +kernel)
theorem tb_444 : Cond.code ({ cls := "ThreadCharts$Rule", name := "hasMark", desc := "(II)Z" } : Jvm.MethodName) prog_9_method_9_code 3 (Option.some Jvm.ClassFile.FieldType.boolean) ∈ lw_good := lw_good_in (List.mem_of_getElem? (i := 546) (by decide +kernel)) (by decide +kernel)
theorem tb_498 : Cond.fieldLink "ThreadCharts$Chart" 36 "ThreadCharts$Chart" "pages" "I" ∈ lw_good := lw_good_in (List.mem_of_getElem? (i := 600) (by decide +kernel)) (by decide +kernel)
theorem tb_570 : Cond.code ({ cls := "ThreadCharts$Chart", name := "hasPage", desc := "(I)Z" } : Jvm.MethodName) prog_2_method_4_code 2 (Option.some Jvm.ClassFile.FieldType.boolean) ∈ lw_good := lw_good_in (List.mem_of_getElem? (i := 672) (by decide +kernel)) (by decide +kernel)
theorem ts_13 : Cond.selects "ThreadCharts$Rule" ⟨"ThreadCharts$Rule", "hasTerm", "(I)Z"⟩ ⟨"ThreadCharts$Rule", "hasTerm", "(I)Z"⟩ ∈ lw_good := lw_good_in (List.mem_of_getElem? (i := 13) (by decide +kernel)) (by decide +kernel)
theorem byte_t (x : Int) : (i32 (i32 x).toInt8.toInt32.toInt).toInt8.toInt32 = i32 (i32 x).toInt8.toInt32.toInt := by
  rw [i32_of]
  exact Int8.toInt8_toInt32 _ ▸ rfl
theorem byte_r (x : Int) : -128 ≤ (i32 x).toInt8.toInt32.toInt ∧ (i32 x).toInt8.toInt32.toInt < 128 := by
  rw [Int8.toInt_toInt32]
  have h1 := Int8.le_toInt (i32 x).toInt8
  have h2 := Int8.toInt_lt (i32 x).toInt8
  omega
