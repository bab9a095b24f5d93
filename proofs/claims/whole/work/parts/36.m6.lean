abbrev M_X10_ruleAt : MD := (yX10_ruleAt, cX10_ruleAt, 2, some (.object "ThreadCharts$Rule"))
abbrev rm_X10_ruleAt : Room := { frames := 0, cells := 0, slots := 0, locals := 0 }
def w_X10_ruleAt_22 (K : Int → Hh → Prop) (a0 : Int) (s0 : Int) (h : Hh) : Prop := K s0 h
set_option maxRecDepth 100000 in
set_option maxHeartbeats 4000000 in
theorem t_X10_ruleAt_22 {G : Gx} {n0 : Int} {K : Int → Hh → Prop} {a0 : Int} (h0 : 0 ≤ a0)  (s0 : Int) (h : Hh) (hf : w_X10_ruleAt_22 K  a0 s0 h) : PW G M_X10_ruleAt rm_X10_ruleAt 0 0 [] n0 K 22 [] [vr 7 s0 0] [] 0 0 h := by
  unfold w_X10_ruleAt_22 at hf
  exact p_aret (Cn := "ThreadCharts$Rule") dX10_ruleAt_22 rfl (by decide) (by decide) (by decide) (fun _ h => absurd h List.not_mem_nil) hf
def w_X10_ruleAt_21 (K : Int → Hh → Prop) (a0 : Int) (h : Hh) : Prop := w_X10_ruleAt_22 K  a0 (-1) h
set_option maxRecDepth 100000 in
set_option maxHeartbeats 4000000 in
theorem t_X10_ruleAt_21 {G : Gx} {n0 : Int} {K : Int → Hh → Prop} {a0 : Int} (h0 : 0 ≤ a0)  (h : Hh) (hf : w_X10_ruleAt_21 K  a0  h) : PW G M_X10_ruleAt rm_X10_ruleAt 0 0 [] n0 K 21 [] [] [] 0 0 h := by
  unfold w_X10_ruleAt_21 at hf
  refine p_null (t := 7) dX10_ruleAt_21 (by decide) ?_
  exact t_X10_ruleAt_22 h0  _ _ hf
def w_X10_ruleAt (a0 x1 : Int) (h : Hh) (K : Int → Hh → Prop) : Prop := if x1 < 0 then (w_X10_ruleAt_21 K  a0  h) else (if x1 ≥ h a0 3 then (w_X10_ruleAt_21 K  a0  h) else (((0 : Int) ≤ x1 ∧ (x1 : Int) < 6) ∧ (w_X10_ruleAt_22 K  a0 (h (a0 + 6) x1) h)))
set_option maxRecDepth 100000 in
set_option maxHeartbeats 4000000 in
theorem t_X10_ruleAt {G : Gx} (a0 x1 : Int) (h : Hh) (K : Int → Hh → Prop) (h0 : 0 ≤ a0) (hf : w_X10_ruleAt a0 x1 h K) : CT G M_X10_ruleAt rm_X10_ruleAt 0 0 [] [vr 10 a0 0, vi x1] h K := by
  unfold w_X10_ruleAt at hf
  refine CT.of (ls0 := [(0, vr 10 a0 0), (1, vi x1)]) (plainFor_of_name (by decide +kernel)) (by decide +kernel) (Nat.le_of_ble_eq_true rfl) rfl rfl ?_
  refine p_iload_n dX10_ruleAt_0 rfl 1 rfl ?_
  refine p_if_lt (tgt := 21) (q := x1 < 0) dX10_ruleAt_1 (by decide) Iff.rfl (fun hc => ?_) (fun hc => ?_)
  · replace hf := Eq.mp (if_pos hc) hf
    refine p_sub (ls' := []) [] rfl ?_
    exact t_X10_ruleAt_21 h0   _ hf
  · replace hf := Eq.mp (if_neg hc) hf
    refine p_iload_n dX10_ruleAt_4 rfl 1 rfl ?_
    refine p_aload_n dX10_ruleAt_5 rfl 0 rfl ?_
    refine p_get (c := 10) (vi (h a0 3)) dX10_ruleAt_6 3 tb_230 (by decide) (by decide) (Or.inl rfl) h0 rfl rfl ?_
    refine p_icmp_ge (tgt := 21) (q := x1 ≥ h a0 3) dX10_ruleAt_9 (by decide) Iff.rfl (fun hc => ?_) (fun hc => ?_)
    · replace hf := Eq.mp (if_pos hc) hf
      refine p_sub (ls' := []) [] rfl ?_
      exact t_X10_ruleAt_21 h0   _ hf
    · replace hf := Eq.mp (if_neg hc) hf
      refine p_aload_n dX10_ruleAt_12 rfl 0 rfl ?_
      refine p_lay (c := 10) (tq := 103) (n := 6) dX10_ruleAt_13 2 6 tb_229 (by decide) (by decide) h0 (by decide) (by decide) (fun _ => rfl) (vr 103 (a0 + 6) 6) rfl ?_
      refine p_iload_n dX10_ruleAt_16 rfl 1 rfl ?_
      obtain ⟨c1, hf⟩ := hf
      refine p_aald7 dX10_ruleAt_17 (nnk h0 (by decide)) c1 ?_
      refine p_goto (tgt := 22) dX10_ruleAt_18 (by decide) ?_
      refine p_sub (ls' := []) [] rfl ?_
      exact t_X10_ruleAt_22 h0  _ _ hf
theorem ok_X10_ruleAt : mOK M_X10_ruleAt 1 := ⟨tb_388, tb_1, by decide +kernel⟩
abbrev M_X10_told : MD := (yX10_told, cX10_told, 4, some .int)
abbrev rm_X10_told : Room := { frames := 2, cells := 0, slots := 0, locals := 42 }
def w_X10_told_74 (K : Int → Hh → Prop) (a0 : Int) (h : Hh) : Prop := K (-2147483648) h
set_option maxRecDepth 100000 in
set_option maxHeartbeats 4000000 in
theorem t_X10_told_74 {G : Gx} {n0 : Int} {K : Int → Hh → Prop} {a0 : Int} (h0 : 0 ≤ a0)  (h : Hh) (hf : w_X10_told_74 K  a0  h) : PW G M_X10_told rm_X10_told 0 0 [] n0 K 74 [] [] [] 0 0 h := by
  unfold w_X10_told_74 at hf
  refine p_ldc (z := (-2147483648)) dX10_told_74 tb_389 (by decide) ?_
  exact p_iret dX10_told_76 rfl (by decide) (by decide) (fun _ h => absurd h List.not_mem_nil) hf
def w_X10_told_53 (K : Int → Hh → Prop) (a0 : Int) (v2 v3 : Int) (h : Hh) : Prop := if v2 < 20 then (w_X10_told_74 K  a0  h) else (if v2 ≥ 30 then (w_X10_told_74 K  a0  h) else (0 ≤ v3 ∧ (w_X7_signOf v3 (w32 (v2 - 20)) h (fun r4 h5 => K r4 h5))))
set_option maxRecDepth 100000 in
set_option maxHeartbeats 4000000 in
theorem t_X10_told_53 {G : Gx} {n0 : Int} {K : Int → Hh → Prop} {a0 : Int} (h0 : 0 ≤ a0)  (v2 v3 : Int) (h : Hh) (hf : w_X10_told_53 K  a0 v2 v3 h) : PW G M_X10_told rm_X10_told 0 0 [] n0 K 53 [(2, vi v2), (3, vr 7 v3 0)] [] [] 0 0 h := by
  unfold w_X10_told_53 at hf
  refine p_iload_n dX10_told_53 rfl 0 rfl ?_
  refine p_bipush dX10_told_54 (by decide) (by decide) ?_
  refine p_icmp_lt (tgt := 74) (q := v2 < 20) dX10_told_56 (by decide) Iff.rfl (fun hc => ?_) (fun hc => ?_)
  · replace hf := Eq.mp (if_pos hc) hf
    refine p_sub (ls' := []) [] rfl ?_
    exact t_X10_told_74 h0   _ hf
  · replace hf := Eq.mp (if_neg hc) hf
    refine p_iload_n dX10_told_59 rfl 0 rfl ?_
    refine p_bipush dX10_told_60 (by decide) (by decide) ?_
    refine p_icmp_ge (tgt := 74) (q := v2 ≥ 30) dX10_told_62 (by decide) Iff.rfl (fun hc => ?_) (fun hc => ?_)
    · replace hf := Eq.mp (if_pos hc) hf
      refine p_sub (ls' := []) [] rfl ?_
      exact t_X10_told_74 h0   _ hf
    · replace hf := Eq.mp (if_neg hc) hf
      refine p_aload_n dX10_told_65 rfl 1 rfl ?_
      refine p_iload_n dX10_told_66 rfl 0 rfl ?_
      refine p_bipush dX10_told_67 (by decide) (by decide) ?_
      refine p_isub dX10_told_69 ?_
      obtain ⟨c3, hf⟩ := hf
      refine p_callVNi dX10_told_70 M_X7_signOf (Or.inl rfl) [vi (w32 (v2 - 20))] (t_X7_signOf _ _ _ _ c3 hf) ok_X7_signOf rfl (c := 7) (by decide) c3 rfl tb_399 ⟨tb_401, ts_14⟩ rfl (Nat.le_of_ble_eq_true rfl) ⟨rfl, rfl⟩ ⟨by decide, by decide⟩ ⟨by decide, by decide⟩ (fun r4 h5 hf => ?_)
      exact p_iret dX10_told_73 rfl (by decide) (by decide) (fun _ h => absurd h List.not_mem_nil) hf
def w_X10_told (a0 x1 x2 : Int) (h : Hh) (K : Int → Hh → Prop) : Prop := w_X10_ruleAt a0 x1 h (fun r1 h2 => if r1 ≠ -1 then (if x2 ≠ 0 then (if x2 ≠ 1 then (if x2 < 10 then (w_X10_told_53 K  a0 x2 r1 h2) else (if x2 ≥ 20 then (w_X10_told_53 K  a0 x2 r1 h2) else (0 ≤ r1 ∧ (w_X7_kindOf r1 (w32 (x2 - 10)) h2 (fun r7 h8 => K r7 h8))))) else (0 ≤ r1 ∧ (K (h2 r1 1) h2))) else (0 ≤ r1 ∧ (K (h2 r1 0) h2))) else (K (-2147483648) h2))
set_option maxRecDepth 100000 in
set_option maxHeartbeats 4000000 in
theorem t_X10_told {G : Gx} (a0 x1 x2 : Int) (h : Hh) (K : Int → Hh → Prop) (h0 : 0 ≤ a0) (hf : w_X10_told a0 x1 x2 h K) : CT G M_X10_told rm_X10_told 0 0 [] [vr 10 a0 0, vi x1, vi x2] h K := by
  unfold w_X10_told at hf
  refine CT.of (ls0 := [(0, vr 10 a0 0), (1, vi x1), (2, vi x2)]) (plainFor_of_name (by decide +kernel)) (by decide +kernel) (Nat.le_of_ble_eq_true rfl) rfl rfl ?_
  refine p_aload_n dX10_told_0 rfl 0 rfl ?_
  refine p_iload_n dX10_told_1 rfl 1 rfl ?_
  refine p_callVr (Cn := "ThreadCharts$Rule") dX10_told_2 M_X10_ruleAt rfl [vi x1] (t_X10_ruleAt _ _ _ _ h0 hf) ok_X10_ruleAt rfl (c := 10) (by decide) h0 rfl tb_385 ⟨tb_387, ts_11⟩ rfl (Nat.le_of_ble_eq_true rfl) ⟨rfl, rfl⟩ ⟨by decide, by decide⟩ ⟨by decide, by decide⟩ (fun r1 h2 hf => ?_)
  refine p_astore_n (ls' := [(3, vr 7 r1 0), (0, vr 10 a0 0), (1, vi x1), (2, vi x2)]) dX10_told_5 rfl (by decide) rfl ?_
  refine p_aload_n dX10_told_6 rfl 0 rfl ?_
  refine p_ifnonnull (tgt := 13) dX10_told_7 (by decide) (by decide) (fun hc => ?_) (fun hc => ?_)
  · replace hf := Eq.mp (if_pos hc) hf
    refine p_iload_n dX10_told_13 rfl 3 rfl ?_
    refine p_if_ne (tgt := 22) (q := x2 ≠ 0) dX10_told_14 (by decide) Iff.rfl (fun hc => ?_) (fun hc => ?_)
    · replace hf := Eq.mp (if_pos hc) hf
      refine p_iload_n dX10_told_22 rfl 3 rfl ?_
      refine p_iconst dX10_told_23 (by decide) ?_
      refine p_icmp_ne (tgt := 32) (q := x2 ≠ 1) dX10_told_24 (by decide) Iff.rfl (fun hc => ?_) (fun hc => ?_)
      · replace hf := Eq.mp (if_pos hc) hf
        refine p_iload_n dX10_told_32 rfl 3 rfl ?_
        refine p_bipush dX10_told_33 (by decide) (by decide) ?_
        refine p_icmp_lt (tgt := 53) (q := x2 < 10) dX10_told_35 (by decide) Iff.rfl (fun hc => ?_) (fun hc => ?_)
        · replace hf := Eq.mp (if_pos hc) hf
          refine p_sub (ls' := [(2, vi x2), (3, vr 7 r1 0)]) [3, 0] rfl ?_
          exact t_X10_told_53 h0  _ _ _ hf
        · replace hf := Eq.mp (if_neg hc) hf
          refine p_iload_n dX10_told_38 rfl 3 rfl ?_
          refine p_bipush dX10_told_39 (by decide) (by decide) ?_
          refine p_icmp_ge (tgt := 53) (q := x2 ≥ 20) dX10_told_41 (by decide) Iff.rfl (fun hc => ?_) (fun hc => ?_)
          · replace hf := Eq.mp (if_pos hc) hf
            refine p_sub (ls' := [(2, vi x2), (3, vr 7 r1 0)]) [3, 0] rfl ?_
            exact t_X10_told_53 h0  _ _ _ hf
          · replace hf := Eq.mp (if_neg hc) hf
            refine p_aload_n dX10_told_44 rfl 0 rfl ?_
            refine p_iload_n dX10_told_45 rfl 3 rfl ?_
            refine p_bipush dX10_told_46 (by decide) (by decide) ?_
            refine p_isub dX10_told_48 ?_
            obtain ⟨c6, hf⟩ := hf
            refine p_callVNi dX10_told_49 M_X7_kindOf (Or.inl rfl) [vi (w32 (x2 - 10))] (t_X7_kindOf _ _ _ _ c6 hf) ok_X7_kindOf rfl (c := 7) (by decide) c6 rfl tb_390 ⟨tb_392, ts_12⟩ rfl (Nat.le_of_ble_eq_true rfl) ⟨rfl, rfl⟩ ⟨by decide, by decide⟩ ⟨by decide, by decide⟩ (fun r7 h8 hf => ?_)
            exact p_iret dX10_told_52 rfl (by decide) (by decide) (fun _ h => absurd h List.not_mem_nil) hf
      · replace hf := Eq.mp (if_neg hc) hf
        refine p_aload_n dX10_told_27 rfl 0 rfl ?_
        obtain ⟨c9, hf⟩ := hf
        refine p_getN (c := 7) (vi (h2 r1 1)) dX10_told_28 1 tb_357 (by decide) (by decide) (Or.inl rfl) c9 rfl rfl ?_
        exact p_iret dX10_told_31 rfl (by decide) (by decide) (fun _ h => absurd h List.not_mem_nil) hf
    · replace hf := Eq.mp (if_neg hc) hf
      refine p_aload_n dX10_told_17 rfl 0 rfl ?_
      obtain ⟨c10, hf⟩ := hf
      refine p_getN (c := 7) (vi (h2 r1 0)) dX10_told_18 0 tb_355 (by decide) (by decide) (Or.inl rfl) c10 rfl rfl ?_
      exact p_iret dX10_told_21 rfl (by decide) (by decide) (fun _ h => absurd h List.not_mem_nil) hf
  · replace hf := Eq.mp (if_neg hc) hf
    refine p_ldc (z := (-2147483648)) dX10_told_10 tb_389 (by decide) ?_
    exact p_iret dX10_told_12 rfl (by decide) (by decide) (fun _ h => absurd h List.not_mem_nil) hf
theorem ok_X10_told : mOK M_X10_told 2 := ⟨tb_384, tb_1, by decide +kernel⟩
abbrev M_X10_range : MD := (yX10_range, cX10_range, 7, some .int)
abbrev rm_X10_range : Room := { frames := 4, cells := 0, slots := 0, locals := 94 }
def w_X10_range_26 (K : Int → Hh → Prop) (a0 : Int) (h : Hh) : Prop := K (-1) h
set_option maxRecDepth 100000 in
set_option maxHeartbeats 4000000 in
theorem t_X10_range_26 {G : Gx} {n0 : Int} {K : Int → Hh → Prop} {a0 : Int} (h0 : 0 ≤ a0)  (h : Hh) (hf : w_X10_range_26 K  a0  h) : PW G M_X10_range rm_X10_range 0 0 [] n0 K 26 [] [] [] 0 0 h := by
  unfold w_X10_range_26 at hf
  refine p_iconst dX10_range_26 (by decide) ?_
  exact p_iret dX10_range_27 rfl (by decide) (by decide) (fun _ h => absurd h List.not_mem_nil) hf
def w_X10_range (a0 x1 x2 x3 x4 x5 : Int) (h : Hh) (K : Int → Hh → Prop) : Prop := w_X10_ruleAt a0 x1 h (fun r1 h2 => if r1 = -1 then (w_X10_range_26 K  a0  h2) else (0 ≤ r1 ∧ (w_X7_canRange r1 x2 x3 x4 x5 h2 (fun r4 h5 => if r4 ≠ 0 then (w_X7_putRange r1 x2 x3 x4 x5 h5 (fun _ h6 => K x5 h6)) else (w_X10_range_26 K  a0  h5)))))
set_option maxRecDepth 100000 in
set_option maxHeartbeats 4000000 in
theorem t_X10_range {G : Gx} (a0 x1 x2 x3 x4 x5 : Int) (h : Hh) (K : Int → Hh → Prop) (h0 : 0 ≤ a0) (hf : w_X10_range a0 x1 x2 x3 x4 x5 h K) : CT G M_X10_range rm_X10_range 0 0 [] [vr 10 a0 0, vi x1, vi x2, vi x3, vi x4, vi x5] h K := by
  unfold w_X10_range at hf
  refine CT.of (ls0 := [(0, vr 10 a0 0), (1, vi x1), (2, vi x2), (3, vi x3), (4, vi x4), (5, vi x5)]) (plainFor_of_name (by decide +kernel)) (by decide +kernel) (Nat.le_of_ble_eq_true rfl) rfl rfl ?_
  refine p_aload_n dX10_range_0 rfl 0 rfl ?_
  refine p_iload_n dX10_range_1 rfl 1 rfl ?_
  refine p_callVr (Cn := "ThreadCharts$Rule") dX10_range_2 M_X10_ruleAt rfl [vi x1] (t_X10_ruleAt _ _ _ _ h0 hf) ok_X10_ruleAt rfl (c := 10) (by decide) h0 rfl tb_385 ⟨tb_387, ts_11⟩ rfl (Nat.le_of_ble_eq_true rfl) ⟨rfl, rfl⟩ ⟨by decide, by decide⟩ ⟨by decide, by decide⟩ (fun r1 h2 hf => ?_)
  refine p_astore (ls' := [(6, vr 7 r1 0), (0, vr 10 a0 0), (1, vi x1), (2, vi x2), (3, vi x3), (4, vi x4), (5, vi x5)]) dX10_range_5 (by decide) rfl ?_
  refine p_aload dX10_range_7 0 rfl ?_
  refine p_ifnull (tgt := 26) dX10_range_9 (by decide) (by decide) (fun hc => ?_) (fun hc => ?_)
  · replace hf := Eq.mp (if_pos hc) hf
    refine p_sub (ls' := []) [] rfl ?_
    exact t_X10_range_26 h0   _ hf
  · replace hf := Eq.mp (if_neg hc) hf
    refine p_aload dX10_range_12 0 rfl ?_
    refine p_iload_n dX10_range_14 rfl 3 rfl ?_
    refine p_iload_n dX10_range_15 rfl 4 rfl ?_
    refine p_iload dX10_range_16 5 rfl ?_
    refine p_iload dX10_range_18 6 rfl ?_
    obtain ⟨c3, hf⟩ := hf
    refine p_callVNi dX10_range_20 M_X7_canRange (Or.inr rfl) [vi x2, vi x3, vi x4, vi x5] (t_X7_canRange _ _ _ _ _ _ _ c3 hf) ok_X7_canRange rfl (c := 7) (by decide) c3 rfl tb_407 ⟨tb_409, ts_15⟩ rfl (Nat.le_of_ble_eq_true rfl) ⟨rfl, rfl⟩ ⟨by decide, by decide⟩ ⟨by decide, by decide⟩ (fun r4 h5 hf => ?_)
    refine p_if_ne (tgt := 28) (q := r4 ≠ 0) dX10_range_23 (by decide) Iff.rfl (fun hc => ?_) (fun hc => ?_)
    · replace hf := Eq.mp (if_pos hc) hf
      refine p_aload dX10_range_28 0 rfl ?_
      refine p_iload_n dX10_range_30 rfl 3 rfl ?_
      refine p_iload_n dX10_range_31 rfl 4 rfl ?_
      refine p_iload dX10_range_32 5 rfl ?_
      refine p_iload dX10_range_34 6 rfl ?_
      refine p_callVNv dX10_range_36 M_X7_putRange rfl [vi x2, vi x3, vi x4, vi x5] (t_X7_putRange _ _ _ _ _ _ _ c3 hf) ok_X7_putRange rfl (c := 7) (by decide) c3 rfl tb_417 ⟨tb_419, ts_16⟩ rfl (Nat.le_of_ble_eq_true rfl) ⟨rfl, rfl⟩ ⟨by decide, by decide⟩ ⟨by decide, by decide⟩ (fun _ h6 hf => ?_)
      refine p_iload dX10_range_39 6 rfl ?_
      exact p_iret dX10_range_41 rfl (by decide) (by decide) (fun _ h => absurd h List.not_mem_nil) hf
    · replace hf := Eq.mp (if_neg hc) hf
      refine p_sub (ls' := []) [] rfl ?_
      exact t_X10_range_26 h0   _ hf
theorem ok_X10_range : mOK M_X10_range 5 := ⟨tb_406, tb_1, by decide +kernel⟩
abbrev M_X10_mark : MD := (yX10_mark, cX10_mark, 5, some .int)
abbrev rm_X10_mark : Room := { frames := 3, cells := 0, slots := 0, locals := 65 }
def w_X10_mark_22 (K : Int → Hh → Prop) (a0 : Int) (h : Hh) : Prop := K (-2147483648) h
set_option maxRecDepth 100000 in
set_option maxHeartbeats 4000000 in
theorem t_X10_mark_22 {G : Gx} {n0 : Int} {K : Int → Hh → Prop} {a0 : Int} (h0 : 0 ≤ a0)  (h : Hh) (hf : w_X10_mark_22 K  a0  h) : PW G M_X10_mark rm_X10_mark 0 0 [] n0 K 22 [] [] [] 0 0 h := by
  unfold w_X10_mark_22 at hf
  refine p_ldc (z := (-2147483648)) dX10_mark_22 tb_389 (by decide) ?_
  exact p_iret dX10_mark_24 rfl (by decide) (by decide) (fun _ h => absurd h List.not_mem_nil) hf
def w_X10_mark (a0 x1 x2 x3 : Int) (h : Hh) (K : Int → Hh → Prop) : Prop := w_X10_ruleAt a0 x1 h (fun r1 h2 => if r1 = -1 then (w_X10_mark_22 K  a0  h2) else (0 ≤ r1 ∧ (w_X7_hasMark r1 x2 x3 h2 (fun r4 h5 => if r4 ≠ 0 then (w_X7_numberOf r1 x2 x3 h5 (fun r6 h7 => K r6 h7)) else (w_X10_mark_22 K  a0  h5)))))
set_option maxRecDepth 100000 in
set_option maxHeartbeats 4000000 in
theorem t_X10_mark {G : Gx} (a0 x1 x2 x3 : Int) (h : Hh) (K : Int → Hh → Prop) (h0 : 0 ≤ a0) (hf : w_X10_mark a0 x1 x2 x3 h K) : CT G M_X10_mark rm_X10_mark 0 0 [] [vr 10 a0 0, vi x1, vi x2, vi x3] h K := by
  unfold w_X10_mark at hf
  refine CT.of (ls0 := [(0, vr 10 a0 0), (1, vi x1), (2, vi x2), (3, vi x3)]) (plainFor_of_name (by decide +kernel)) (by decide +kernel) (Nat.le_of_ble_eq_true rfl) rfl rfl ?_
  refine p_aload_n dX10_mark_0 rfl 0 rfl ?_
  refine p_iload_n dX10_mark_1 rfl 1 rfl ?_
  refine p_callVr (Cn := "ThreadCharts$Rule") dX10_mark_2 M_X10_ruleAt rfl [vi x1] (t_X10_ruleAt _ _ _ _ h0 hf) ok_X10_ruleAt rfl (c := 10) (by decide) h0 rfl tb_385 ⟨tb_387, ts_11⟩ rfl (Nat.le_of_ble_eq_true rfl) ⟨rfl, rfl⟩ ⟨by decide, by decide⟩ ⟨by decide, by decide⟩ (fun r1 h2 hf => ?_)
  refine p_astore (ls' := [(4, vr 7 r1 0), (0, vr 10 a0 0), (1, vi x1), (2, vi x2), (3, vi x3)]) dX10_mark_5 (by decide) rfl ?_
  refine p_aload dX10_mark_7 0 rfl ?_
  refine p_ifnull (tgt := 22) dX10_mark_9 (by decide) (by decide) (fun hc => ?_) (fun hc => ?_)
  · replace hf := Eq.mp (if_pos hc) hf
    refine p_sub (ls' := []) [] rfl ?_
    exact t_X10_mark_22 h0   _ hf
  · replace hf := Eq.mp (if_neg hc) hf
    refine p_aload dX10_mark_12 0 rfl ?_
    refine p_iload_n dX10_mark_14 rfl 3 rfl ?_
    refine p_iload_n dX10_mark_15 rfl 4 rfl ?_
    obtain ⟨c3, hf⟩ := hf
    refine p_callVNi dX10_mark_16 M_X7_hasMark (Or.inr rfl) [vi x2, vi x3] (t_X7_hasMark _ _ _ _ _ c3 hf) ok_X7_hasMark rfl (c := 7) (by decide) c3 rfl tb_441 ⟨tb_443, ts_18⟩ rfl (Nat.le_of_ble_eq_true rfl) ⟨rfl, rfl⟩ ⟨by decide, by decide⟩ ⟨by decide, by decide⟩ (fun r4 h5 hf => ?_)
    refine p_if_ne (tgt := 25) (q := r4 ≠ 0) dX10_mark_19 (by decide) Iff.rfl (fun hc => ?_) (fun hc => ?_)
    · replace hf := Eq.mp (if_pos hc) hf
      refine p_aload dX10_mark_25 0 rfl ?_
      refine p_iload_n dX10_mark_27 rfl 3 rfl ?_
      refine p_iload_n dX10_mark_28 rfl 4 rfl ?_
      refine p_callVNi dX10_mark_29 M_X7_numberOf (Or.inl rfl) [vi x2, vi x3] (t_X7_numberOf _ _ _ _ _ c3 hf) ok_X7_numberOf rfl (c := 7) (by decide) c3 rfl tb_445 ⟨tb_447, ts_19⟩ rfl (Nat.le_of_ble_eq_true rfl) ⟨rfl, rfl⟩ ⟨by decide, by decide⟩ ⟨by decide, by decide⟩ (fun r6 h7 hf => ?_)
      exact p_iret dX10_mark_32 rfl (by decide) (by decide) (fun _ h => absurd h List.not_mem_nil) hf
    · replace hf := Eq.mp (if_neg hc) hf
      refine p_sub (ls' := []) [] rfl ?_
      exact t_X10_mark_22 h0   _ hf
theorem ok_X10_mark : mOK M_X10_mark 3 := ⟨tb_440, tb_1, by decide +kernel⟩
abbrev M_X10_areModuli : MD := (yX10_areModuli, cX10_areModuli, 4, some .boolean)
abbrev rm_X10_areModuli : Room := { frames := 0, cells := 0, slots := 0, locals := 0 }
def w_X10_areModuli_51 (K : Int → Hh → Prop) (s0 : Int) (h : Hh) : Prop := (s0 = 0 ∨ s0 = 1) ∧ (K s0 h)
set_option maxRecDepth 100000 in
set_option maxHeartbeats 4000000 in
theorem t_X10_areModuli_51 {G : Gx} {n0 : Int} {K : Int → Hh → Prop}  (s0 : Int) (h : Hh) (hf : w_X10_areModuli_51 K   s0 h) : PW G M_X10_areModuli rm_X10_areModuli 0 0 [] n0 K 51 [] [vi s0] [] 0 0 h := by
  unfold w_X10_areModuli_51 at hf
  obtain ⟨c3, hf⟩ := hf
  exact p_zret dX10_areModuli_51 rfl (by decide) (by decide) (fun _ h => absurd h List.not_mem_nil) c3 hf
def w_X10_areModuli_50 (K : Int → Hh → Prop) (h : Hh) : Prop := w_X10_areModuli_51 K   0 h
set_option maxRecDepth 100000 in
set_option maxHeartbeats 4000000 in
theorem t_X10_areModuli_50 {G : Gx} {n0 : Int} {K : Int → Hh → Prop}  (h : Hh) (hf : w_X10_areModuli_50 K    h) : PW G M_X10_areModuli rm_X10_areModuli 0 0 [] n0 K 50 [] [] [] 0 0 h := by
  unfold w_X10_areModuli_50 at hf
  refine p_iconst dX10_areModuli_50 (by decide) ?_
  exact t_X10_areModuli_51  _ _ hf
def w_X10_areModuli_13 (K : Int → Hh → Prop) (s0 : Int) (h : Hh) : Prop := (s0 = 0 ∨ s0 = 1) ∧ (K s0 h)
set_option maxRecDepth 100000 in
set_option maxHeartbeats 4000000 in
theorem t_X10_areModuli_13 {G : Gx} {n0 : Int} {K : Int → Hh → Prop}  (s0 : Int) (h : Hh) (hf : w_X10_areModuli_13 K   s0 h) : PW G M_X10_areModuli rm_X10_areModuli 0 0 [] n0 K 13 [] [vi s0] [] 0 0 h := by
  unfold w_X10_areModuli_13 at hf
  obtain ⟨c4, hf⟩ := hf
  exact p_zret dX10_areModuli_13 rfl (by decide) (by decide) (fun _ h => absurd h List.not_mem_nil) c4 hf
def w_X10_areModuli (x0 x1 : Int) (h : Hh) (K : Int → Hh → Prop) : Prop := if x1 ≠ 0 then (vb (w32 (Int.tdiv x0 100)) fun z1 => vb (Int.tmod x0 100) fun z2 => if z1 < 1 then (w_X10_areModuli_50 K    h) else (if z1 > 50 then (w_X10_areModuli_50 K    h) else (if z2 < 1 then (w_X10_areModuli_50 K    h) else (if z2 > 50 then (w_X10_areModuli_50 K    h) else (w_X10_areModuli_51 K   1 h))))) else (if x0 ≠ 0 then (w_X10_areModuli_13 K   0 h) else (w_X10_areModuli_13 K   1 h))
set_option maxRecDepth 100000 in
set_option maxHeartbeats 4000000 in
theorem t_X10_areModuli {G : Gx} (x0 x1 : Int) (h : Hh) (K : Int → Hh → Prop) (hf : w_X10_areModuli x0 x1 h K) : CT G M_X10_areModuli rm_X10_areModuli 0 0 [] [vi x0, vi x1] h K := by
  unfold w_X10_areModuli at hf
  refine CT.of (ls0 := [(0, vi x0), (1, vi x1)]) (plainFor_of_name (by decide +kernel)) (by decide +kernel) (Nat.le_of_ble_eq_true rfl) rfl rfl ?_
  refine p_iload_n dX10_areModuli_0 rfl 1 rfl ?_
  refine p_if_ne (tgt := 14) (q := x1 ≠ 0) dX10_areModuli_1 (by decide) Iff.rfl (fun hc => ?_) (fun hc => ?_)
  · replace hf := Eq.mp (if_pos hc) hf
    refine p_iload_n dX10_areModuli_14 rfl 0 rfl ?_
    refine p_bipush dX10_areModuli_15 (by decide) (by decide) ?_
    refine p_idiv dX10_areModuli_17 (by decide) ?_
    refine p_istore_n (ls' := [(2, vi (w32 (Int.tdiv x0 100))), (0, vi x0), (1, vi x1)]) dX10_areModuli_18 rfl (by decide) rfl ?_
    replace hf := vb_e hf
    generalize (w32 (Int.tdiv x0 100)) = z1 at hf ⊢
    refine p_iload_n dX10_areModuli_19 rfl 1 rfl ?_
    refine p_bipush dX10_areModuli_20 (by decide) (by decide) ?_
    refine p_irem dX10_areModuli_22 (by decide) ?_
    refine p_istore_n (ls' := [(3, vi (Int.tmod x0 100)), (2, vi z1), (0, vi x0), (1, vi x1)]) dX10_areModuli_23 rfl (by decide) rfl ?_
    replace hf := vb_e hf
    generalize (Int.tmod x0 100) = z2 at hf ⊢
    refine p_iload_n dX10_areModuli_24 rfl 1 rfl ?_
    refine p_iconst dX10_areModuli_25 (by decide) ?_
    refine p_icmp_lt (tgt := 50) (q := z1 < 1) dX10_areModuli_26 (by decide) Iff.rfl (fun hc => ?_) (fun hc => ?_)
    · replace hf := Eq.mp (if_pos hc) hf
      refine p_sub (ls' := []) [] rfl ?_
      exact t_X10_areModuli_50   _ hf
    · replace hf := Eq.mp (if_neg hc) hf
      refine p_iload_n dX10_areModuli_29 rfl 1 rfl ?_
      refine p_bipush dX10_areModuli_30 (by decide) (by decide) ?_
      refine p_icmp_gt (tgt := 50) (q := z1 > 50) dX10_areModuli_32 (by decide) Iff.rfl (fun hc => ?_) (fun hc => ?_)
      · replace hf := Eq.mp (if_pos hc) hf
        refine p_sub (ls' := []) [] rfl ?_
        exact t_X10_areModuli_50   _ hf
      · replace hf := Eq.mp (if_neg hc) hf
        refine p_iload_n dX10_areModuli_35 rfl 0 rfl ?_
        refine p_iconst dX10_areModuli_36 (by decide) ?_
        refine p_icmp_lt (tgt := 50) (q := z2 < 1) dX10_areModuli_37 (by decide) Iff.rfl (fun hc => ?_) (fun hc => ?_)
        · replace hf := Eq.mp (if_pos hc) hf
          refine p_sub (ls' := []) [] rfl ?_
          exact t_X10_areModuli_50   _ hf
        · replace hf := Eq.mp (if_neg hc) hf
          refine p_iload_n dX10_areModuli_40 rfl 0 rfl ?_
          refine p_bipush dX10_areModuli_41 (by decide) (by decide) ?_
          refine p_icmp_gt (tgt := 50) (q := z2 > 50) dX10_areModuli_43 (by decide) Iff.rfl (fun hc => ?_) (fun hc => ?_)
          · replace hf := Eq.mp (if_pos hc) hf
            refine p_sub (ls' := []) [] rfl ?_
            exact t_X10_areModuli_50   _ hf
          · replace hf := Eq.mp (if_neg hc) hf
            refine p_iconst dX10_areModuli_46 (by decide) ?_
            refine p_goto (tgt := 51) dX10_areModuli_47 (by decide) ?_
            refine p_sub (ls' := []) [] rfl ?_
            exact t_X10_areModuli_51  _ _ hf
  · replace hf := Eq.mp (if_neg hc) hf
    refine p_iload_n dX10_areModuli_4 rfl 0 rfl ?_
    refine p_if_ne (tgt := 12) (q := x0 ≠ 0) dX10_areModuli_5 (by decide) Iff.rfl (fun hc => ?_) (fun hc => ?_)
    · replace hf := Eq.mp (if_pos hc) hf
      refine p_iconst dX10_areModuli_12 (by decide) ?_
      refine p_sub (ls' := []) [] rfl ?_
      exact t_X10_areModuli_13  _ _ hf
    · replace hf := Eq.mp (if_neg hc) hf
      refine p_iconst dX10_areModuli_8 (by decide) ?_
      refine p_goto (tgt := 13) dX10_areModuli_9 (by decide) ?_
      refine p_sub (ls' := []) [] rfl ?_
      exact t_X10_areModuli_13  _ _ hf
theorem ok_X10_areModuli : mOK M_X10_areModuli 2 := ⟨tb_464, tb_1, by decide +kernel⟩
abbrev M_X10_chart : MD := (yX10_chart, cX10_chart, 10, some .int)
abbrev rm_X10_chart : Room := { frames := 5, cells := 7, slots := 32, locals := 115 }
def w_X10_chart_34 (K : Int → Hh → Prop) (n0 a0 : Int) (h : Hh) : Prop := K (-1) h
set_option maxRecDepth 100000 in
set_option maxHeartbeats 4000000 in
theorem t_X10_chart_34 {G : Gx} {n0 : Int} {K : Int → Hh → Prop} {a0 : Int} (h0 : 0 ≤ a0)  (h : Hh) (hf : w_X10_chart_34 K  n0 a0  h) : PW G M_X10_chart rm_X10_chart 7 32 [] n0 K 34 [] [] [] 0 0 h := by
  unfold w_X10_chart_34 at hf
  refine p_iconst dX10_chart_34 (by decide) ?_
  exact p_iret dX10_chart_35 rfl (by decide) (by decide) (fun _ h => absurd h List.not_mem_nil) hf
def w_X10_chart_53 (K : Int → Hh → Prop) (n0 a0 : Int) (h : Hh) : Prop := K (-1) h
set_option maxRecDepth 100000 in
set_option maxHeartbeats 4000000 in
theorem t_X10_chart_53 {G : Gx} {n0 : Int} {K : Int → Hh → Prop} {a0 : Int} (h0 : 0 ≤ a0)  (h : Hh) (hf : w_X10_chart_53 K  n0 a0  h) : PW G M_X10_chart rm_X10_chart 7 32 [] n0 K 53 [] [] [] 0 0 h := by
  unfold w_X10_chart_53 at hf
  refine p_iconst dX10_chart_53 (by decide) ?_
  exact p_iret dX10_chart_54 rfl (by decide) (by decide) (fun _ h => absurd h List.not_mem_nil) hf
def w_X10_chart_120 (K : Int → Hh → Prop) (n0 a0 : Int) (h : Hh) : Prop := K (-1) h
set_option maxRecDepth 100000 in
set_option maxHeartbeats 4000000 in
theorem t_X10_chart_120 {G : Gx} {n0 : Int} {K : Int → Hh → Prop} {a0 : Int} (h0 : 0 ≤ a0)  (h : Hh) (hf : w_X10_chart_120 K  n0 a0  h) : PW G M_X10_chart rm_X10_chart 7 32 [] n0 K 120 [] [] [] 0 0 h := by
  unfold w_X10_chart_120 at hf
  refine p_iconst dX10_chart_120 (by decide) ?_
  exact p_iret dX10_chart_121 rfl (by decide) (by decide) (fun _ h => absurd h List.not_mem_nil) hf
def w_X10_chart_114 (K : Int → Hh → Prop) (n0 a0 : Int) (v2 v3 v4 v5 v6 v7 s0 s1 : Int) (h : Hh) : Prop := w_X10_areModuli s1 s0 h (fun r13 h14 => if r13 ≠ 0 then (vb (h14 (-1) 0) fun z15 => hb (nw h14 (dfl 0)) fun h17 => 0 ≤ z15 ∧ (w_X0_init z15 v7 (h17 a0 5) v3 h17 (fun _ h19 => (h19 z15 5 = z15 + 1) ∧ ((h19 z15 6 = z15 + 2) ∧ ((h19 z15 7 = z15 + 3) ∧ ((h19 z15 8 = z15 + 4) ∧ ((h19 z15 9 = z15 + 5) ∧ ((h19 z15 10 = z15 + 6) ∧ ((n0 ≤ z15) ∧ (w_X0_putOrder z15 v2 h19 (fun _ h27 => w_X0_putModuli z15 0 v4 h27 (fun _ h28 => w_X0_putModuli z15 1 v5 h28 (fun _ h29 => w_X0_putModuli z15 2 v6 h29 (fun _ h30 => ((0 : Int) ≤ h30 a0 5 ∧ (h30 a0 5 : Int) < 6) ∧ (hb (up h30 (a0 + 7) (h30 a0 5) z15) fun h32 => hb (up h32 a0 5 (w32 ((h32 a0 5) + 1))) fun h33 => K (w32 ((h33 a0 5) - 1)) h33))))))))))))))) else (w_X10_chart_120 K  n0 a0  h14))
set_option maxRecDepth 100000 in
set_option maxHeartbeats 4000000 in
theorem t_X10_chart_114 {G : Gx} {n0 : Int} {K : Int → Hh → Prop} {a0 : Int} (h0 : 0 ≤ a0)  (v2 v3 v4 v5 v6 v7 s0 s1 : Int) (h : Hh) (hf : w_X10_chart_114 K  n0 a0 v2 v3 v4 v5 v6 v7 s0 s1 h) : PW G M_X10_chart rm_X10_chart 7 32 [] n0 K 114 [(0, vr 10 a0 0), (2, vi v2), (3, vi v3), (4, vi v4), (5, vi v5), (6, vi v6), (7, vr 7 v7 0)] [vi s0, vi s1] [] 0 0 h := by
  unfold w_X10_chart_114 at hf
  refine p_callSi dX10_chart_114 M_X10_areModuli (Or.inr rfl) [vi s1, vi s0] (t_X10_areModuli _ _ _ _ hf) ok_X10_areModuli rfl tb_462 tb_463 rfl (Nat.le_of_ble_eq_true rfl) ⟨rfl, rfl⟩ ⟨by decide, by decide⟩ ⟨by decide, by decide⟩ (fun r13 h14 hf => ?_)
  refine p_if_ne (tgt := 122) (q := r13 ≠ 0) dX10_chart_117 (by decide) Iff.rfl (fun hc => ?_) (fun hc => ?_)
  · replace hf := Eq.mp (if_pos hc) hf
    replace hf := vb_e hf
    generalize q16 : h14 (-1) 0 = z15 at hf
    refine p_new (c := 0) (z := z15) dX10_chart_122 (by decide) tb_78 tb_465 tb_12 q16 ⟨by decide, by decide⟩ ?_
    replace hf := hb_e hf
    generalize nw h14 (dfl 0) = h17 at hf ⊢
    refine p_norm (kn' := []) (cells' := 1) (slots' := 11) rfl rfl rfl ?_
    refine p_dup dX10_chart_125 (fun _ q => by cases q) ?_
    refine p_aload dX10_chart_126 6 rfl ?_
    refine p_aload_n dX10_chart_128 rfl 0 rfl ?_
    refine p_get (c := 10) (vi (h17 a0 5)) dX10_chart_129 5 tb_232 (by decide) (by decide) (Or.inl rfl) h0 rfl rfl ?_
    refine p_iload_n dX10_chart_132 rfl 2 rfl ?_
    obtain ⟨c18, hf⟩ := hf
    refine p_callINv (c := 0) dX10_chart_133 M_X0_init rfl [vr 7 v7 0, vi (h17 a0 5), vi v3] (t_X0_init _ _ _ _ _ _ c18 hf) ok_X0_init rfl (by decide) c18 rfl tb_466 rfl tb_467 rfl (Nat.le_of_ble_eq_true rfl) ⟨rfl, rfl⟩ ⟨by decide, by decide⟩ ⟨by decide, by decide⟩ (fun _ h19 hf => ?_)
    refine p_norm (kn' := [vr 100 (z15 + 1) 4, vr 100 (z15 + 2) 3, vr 100 (z15 + 3) 3, vr 101 (z15 + 4) 4, vr 101 (z15 + 5) 4, vr 4 (z15 + 6) 0]) (cells' := 7) (slots' := 32) rfl rfl rfl ?_
    obtain ⟨c20, hf⟩ := hf
    obtain ⟨c21, hf⟩ := hf
    obtain ⟨c22, hf⟩ := hf
    obtain ⟨c23, hf⟩ := hf
    obtain ⟨c24, hf⟩ := hf
    obtain ⟨c25, hf⟩ := hf
    obtain ⟨c26, hf⟩ := hf
    refine p_seal (c := 0) (by decide) c18 c26 (show ∀ y ∈ ([(5, 1, 100, 4), (6, 2, 100, 3), (7, 3, 100, 3), (8, 4, 101, 4), (9, 5, 101, 4), (10, 6, 4, 0)] : List (Nat × Nat × Kd)), _ from List.forall_mem_cons.mpr ⟨⟨c20, List.mem_of_getElem? (i := 0) rfl⟩, List.forall_mem_cons.mpr ⟨⟨c21, List.mem_of_getElem? (i := 1) rfl⟩, List.forall_mem_cons.mpr ⟨⟨c22, List.mem_of_getElem? (i := 2) rfl⟩, List.forall_mem_cons.mpr ⟨⟨c23, List.mem_of_getElem? (i := 3) rfl⟩, List.forall_mem_cons.mpr ⟨⟨c24, List.mem_of_getElem? (i := 4) rfl⟩, List.forall_mem_cons.mpr ⟨⟨c25, List.mem_of_getElem? (i := 5) rfl⟩, fun _ h => absurd h List.not_mem_nil⟩⟩⟩⟩⟩⟩) (List.forall_mem_cons.mpr ⟨Or.inl (by decide), List.forall_mem_cons.mpr ⟨trivial, List.forall_mem_cons.mpr ⟨trivial, List.forall_mem_cons.mpr ⟨trivial, List.forall_mem_cons.mpr ⟨trivial, List.forall_mem_cons.mpr ⟨trivial, List.forall_mem_cons.mpr ⟨Or.inl (by decide), fun _ h => absurd h List.not_mem_nil⟩⟩⟩⟩⟩⟩⟩) (fun _ h => absurd h List.not_mem_nil) (List.forall_mem_cons.mpr ⟨Or.inr (Or.inl (by decide)), List.forall_mem_cons.mpr ⟨Or.inr (Or.inl (by decide)), List.forall_mem_cons.mpr ⟨Or.inr (Or.inl (by decide)), List.forall_mem_cons.mpr ⟨Or.inr (Or.inl (by decide)), List.forall_mem_cons.mpr ⟨Or.inr (Or.inl (by decide)), List.forall_mem_cons.mpr ⟨Or.inl (by decide), fun _ h => absurd h List.not_mem_nil⟩⟩⟩⟩⟩⟩) ?_
    refine p_astore (ls' := [(9, vr 0 z15 0), (0, vr 10 a0 0), (2, vi v2), (3, vi v3), (4, vi v4), (5, vi v5), (6, vi v6), (7, vr 7 v7 0)]) dX10_chart_136 (by decide) rfl ?_
    refine p_aload dX10_chart_138 0 rfl ?_
    refine p_iload_n dX10_chart_140 rfl 2 rfl ?_
    refine p_callVNv dX10_chart_141 M_X0_putOrder rfl [vi v2] (t_X0_putOrder _ _ _ _ c18 hf) ok_X0_putOrder rfl (c := 0) (by decide) c18 rfl tb_539 ⟨tb_541, ts_22⟩ rfl (Nat.le_of_ble_eq_true rfl) ⟨rfl, rfl⟩ ⟨by decide, by decide⟩ ⟨by decide, by decide⟩ (fun _ h27 hf => ?_)
    refine p_aload dX10_chart_144 0 rfl ?_
    refine p_iconst dX10_chart_146 (by decide) ?_
    refine p_iload dX10_chart_147 4 rfl ?_
    refine p_callVNv dX10_chart_149 M_X0_putModuli rfl [vi 0, vi v4] (t_X0_putModuli _ _ _ _ _ c18 hf) ok_X0_putModuli rfl (c := 0) (by decide) c18 rfl tb_563 ⟨tb_565, ts_27⟩ rfl (Nat.le_of_ble_eq_true rfl) ⟨rfl, rfl⟩ ⟨by decide, by decide⟩ ⟨by decide, by decide⟩ (fun _ h28 hf => ?_)
    refine p_aload dX10_chart_152 0 rfl ?_
    refine p_iconst dX10_chart_154 (by decide) ?_
    refine p_iload dX10_chart_155 5 rfl ?_
    refine p_callVNv dX10_chart_157 M_X0_putModuli rfl [vi 1, vi v5] (t_X0_putModuli _ _ _ _ _ c18 hf) ok_X0_putModuli rfl (c := 0) (by decide) c18 rfl tb_563 ⟨tb_565, ts_27⟩ rfl (Nat.le_of_ble_eq_true rfl) ⟨rfl, rfl⟩ ⟨by decide, by decide⟩ ⟨by decide, by decide⟩ (fun _ h29 hf => ?_)
    refine p_aload dX10_chart_160 0 rfl ?_
    refine p_iconst dX10_chart_162 (by decide) ?_
    refine p_iload dX10_chart_163 6 rfl ?_
    refine p_callVNv dX10_chart_165 M_X0_putModuli rfl [vi 2, vi v6] (t_X0_putModuli _ _ _ _ _ c18 hf) ok_X0_putModuli rfl (c := 0) (by decide) c18 rfl tb_563 ⟨tb_565, ts_27⟩ rfl (Nat.le_of_ble_eq_true rfl) ⟨rfl, rfl⟩ ⟨by decide, by decide⟩ ⟨by decide, by decide⟩ (fun _ h30 hf => ?_)
    refine p_aload_n dX10_chart_168 rfl 1 rfl ?_
    refine p_lay (c := 10) (tq := 104) (n := 6) dX10_chart_169 4 7 tb_231 (by decide) (by decide) h0 (by decide) (by decide) (fun _ => rfl) (vr 104 (a0 + 7) 6) rfl ?_
    refine p_aload_n dX10_chart_172 rfl 1 rfl ?_
    refine p_get (c := 10) (vi (h30 a0 5)) dX10_chart_173 5 tb_232 (by decide) (by decide) (Or.inl rfl) h0 rfl rfl ?_
    refine p_aload dX10_chart_176 0 rfl ?_
    obtain ⟨c31, hf⟩ := hf
    refine p_aast0 dX10_chart_178 (nnk h0 (by decide)) c31 c18 ?_
    replace hf := hb_e hf
    generalize up h30 (a0 + 7) (h30 a0 5) z15 = h32 at hf ⊢
    refine p_aload_n dX10_chart_179 rfl 1 rfl ?_
    refine p_dup dX10_chart_180 (fun _ q => by cases q) ?_
    refine p_get (c := 10) (vi (h32 a0 5)) dX10_chart_181 5 tb_232 (by decide) (by decide) (Or.inl rfl) h0 rfl rfl ?_
    refine p_iconst dX10_chart_184 (by decide) ?_
    refine p_iadd dX10_chart_185 ?_
    refine p_puti (c := 10) dX10_chart_186 5 tb_232 (by decide) (by decide) (Or.inl rfl) h0 rfl rfl (fun _ => by decide) (up h32 a0 5 (w32 ((h32 a0 5) + 1))) rfl ?_
    replace hf := hb_e hf
    generalize up h32 a0 5 (w32 ((h32 a0 5) + 1)) = h33 at hf ⊢
    refine p_aload_n dX10_chart_189 rfl 1 rfl ?_
    refine p_get (c := 10) (vi (h33 a0 5)) dX10_chart_190 5 tb_232 (by decide) (by decide) (Or.inl rfl) h0 rfl rfl ?_
    refine p_iconst dX10_chart_193 (by decide) ?_
    refine p_isub dX10_chart_194 ?_
    exact p_iret dX10_chart_195 rfl (by decide) (by decide) (fun _ h => absurd h List.not_mem_nil) hf
  · replace hf := Eq.mp (if_neg hc) hf
    refine p_sub (ls' := []) [] rfl ?_
    exact t_X10_chart_120 h0   _ hf
def w_X10_chart_95 (K : Int → Hh → Prop) (n0 a0 : Int) (v2 v3 v4 v5 v6 v7 v8 s0 s1 : Int) (h : Hh) : Prop := w_X10_areModuli s1 s0 h (fun r11 h12 => if r11 = 0 then (w_X10_chart_120 K  n0 a0  h12) else (if v8 ≤ 2 then (w_X10_chart_114 K  n0 a0 v2 v3 v4 v5 v6 v7 0 v6 h12) else (w_X10_chart_114 K  n0 a0 v2 v3 v4 v5 v6 v7 1 v6 h12)))
set_option maxRecDepth 100000 in
set_option maxHeartbeats 4000000 in
theorem t_X10_chart_95 {G : Gx} {n0 : Int} {K : Int → Hh → Prop} {a0 : Int} (h0 : 0 ≤ a0)  (v2 v3 v4 v5 v6 v7 v8 s0 s1 : Int) (h : Hh) (hf : w_X10_chart_95 K  n0 a0 v2 v3 v4 v5 v6 v7 v8 s0 s1 h) : PW G M_X10_chart rm_X10_chart 7 32 [] n0 K 95 [(0, vr 10 a0 0), (2, vi v2), (3, vi v3), (4, vi v4), (5, vi v5), (6, vi v6), (7, vr 7 v7 0), (8, vi v8)] [vi s0, vi s1] [] 0 0 h := by
  unfold w_X10_chart_95 at hf
  refine p_callSi dX10_chart_95 M_X10_areModuli (Or.inr rfl) [vi s1, vi s0] (t_X10_areModuli _ _ _ _ hf) ok_X10_areModuli rfl tb_462 tb_463 rfl (Nat.le_of_ble_eq_true rfl) ⟨rfl, rfl⟩ ⟨by decide, by decide⟩ ⟨by decide, by decide⟩ (fun r11 h12 hf => ?_)
  refine p_if_eq (tgt := 120) (q := r11 = 0) dX10_chart_98 (by decide) Iff.rfl (fun hc => ?_) (fun hc => ?_)
  · replace hf := Eq.mp (if_pos hc) hf
    refine p_sub (ls' := []) [] rfl ?_
    exact t_X10_chart_120 h0   _ hf
  · replace hf := Eq.mp (if_neg hc) hf
    refine p_iload dX10_chart_101 5 rfl ?_
    refine p_iload dX10_chart_103 7 rfl ?_
    refine p_iconst dX10_chart_105 (by decide) ?_
    refine p_icmp_le (tgt := 113) (q := v8 ≤ 2) dX10_chart_106 (by decide) Iff.rfl (fun hc => ?_) (fun hc => ?_)
    · replace hf := Eq.mp (if_pos hc) hf
      refine p_iconst dX10_chart_113 (by decide) ?_
      refine p_sub (ls' := [(0, vr 10 a0 0), (2, vi v2), (3, vi v3), (4, vi v4), (5, vi v5), (6, vi v6), (7, vr 7 v7 0)]) [0, 1, 2, 3, 4, 5, 6] rfl ?_
      exact t_X10_chart_114 h0  _ _ _ _ _ _ _ _ _ hf
    · replace hf := Eq.mp (if_neg hc) hf
      refine p_iconst dX10_chart_109 (by decide) ?_
      refine p_goto (tgt := 114) dX10_chart_110 (by decide) ?_
      refine p_sub (ls' := [(0, vr 10 a0 0), (2, vi v2), (3, vi v3), (4, vi v4), (5, vi v5), (6, vi v6), (7, vr 7 v7 0)]) [0, 1, 2, 3, 4, 5, 6] rfl ?_
      exact t_X10_chart_114 h0  _ _ _ _ _ _ _ _ _ hf
def w_X10_chart_76 (K : Int → Hh → Prop) (n0 a0 : Int) (v2 v3 v4 v5 v6 v7 v8 s0 s1 : Int) (h : Hh) : Prop := w_X10_areModuli s1 s0 h (fun r9 h10 => if r9 = 0 then (w_X10_chart_120 K  n0 a0  h10) else (if v8 ≤ 1 then (w_X10_chart_95 K  n0 a0 v2 v3 v4 v5 v6 v7 v8 0 v5 h10) else (w_X10_chart_95 K  n0 a0 v2 v3 v4 v5 v6 v7 v8 1 v5 h10)))
set_option maxRecDepth 100000 in
set_option maxHeartbeats 4000000 in
theorem t_X10_chart_76 {G : Gx} {n0 : Int} {K : Int → Hh → Prop} {a0 : Int} (h0 : 0 ≤ a0)  (v2 v3 v4 v5 v6 v7 v8 s0 s1 : Int) (h : Hh) (hf : w_X10_chart_76 K  n0 a0 v2 v3 v4 v5 v6 v7 v8 s0 s1 h) : PW G M_X10_chart rm_X10_chart 7 32 [] n0 K 76 [(0, vr 10 a0 0), (2, vi v2), (3, vi v3), (4, vi v4), (5, vi v5), (6, vi v6), (7, vr 7 v7 0), (8, vi v8)] [vi s0, vi s1] [] 0 0 h := by
  unfold w_X10_chart_76 at hf
  refine p_callSi dX10_chart_76 M_X10_areModuli (Or.inr rfl) [vi s1, vi s0] (t_X10_areModuli _ _ _ _ hf) ok_X10_areModuli rfl tb_462 tb_463 rfl (Nat.le_of_ble_eq_true rfl) ⟨rfl, rfl⟩ ⟨by decide, by decide⟩ ⟨by decide, by decide⟩ (fun r9 h10 hf => ?_)
  refine p_if_eq (tgt := 120) (q := r9 = 0) dX10_chart_79 (by decide) Iff.rfl (fun hc => ?_) (fun hc => ?_)
  · replace hf := Eq.mp (if_pos hc) hf
    refine p_sub (ls' := []) [] rfl ?_
    exact t_X10_chart_120 h0   _ hf
  · replace hf := Eq.mp (if_neg hc) hf
    refine p_iload dX10_chart_82 4 rfl ?_
    refine p_iload dX10_chart_84 7 rfl ?_
    refine p_iconst dX10_chart_86 (by decide) ?_
    refine p_icmp_le (tgt := 94) (q := v8 ≤ 1) dX10_chart_87 (by decide) Iff.rfl (fun hc => ?_) (fun hc => ?_)
    · replace hf := Eq.mp (if_pos hc) hf
      refine p_iconst dX10_chart_94 (by decide) ?_
      exact t_X10_chart_95 h0  _ _ _ _ _ _ _ _ _ _ hf
    · replace hf := Eq.mp (if_neg hc) hf
      refine p_iconst dX10_chart_90 (by decide) ?_
      refine p_goto (tgt := 95) dX10_chart_91 (by decide) ?_
      exact t_X10_chart_95 h0  _ _ _ _ _ _ _ _ _ _ hf
def w_X10_chart (a0 x1 x2 x3 x4 x5 x6 : Int) (h : Hh) (K : Int → Hh → Prop) : Prop := w_X10_ruleAt a0 x1 h (fun r1 h2 => if r1 = -1 then (w_X10_chart_34 K  (h (-1) 0) a0  h2) else (if h2 a0 5 ≥ 6 then (w_X10_chart_34 K  (h (-1) 0) a0  h2) else (if x3 < 10 then (w_X10_chart_34 K  (h (-1) 0) a0  h2) else (if x3 ≤ 1000 then (0 ≤ r1 ∧ (w_X7_hasAllRanges r1 h2 (fun r4 h5 => if r4 = 0 then (w_X10_chart_53 K  (h (-1) 0) a0  h5) else (w_X7_isOrder r1 x2 h5 (fun r6 h7 => if r6 ≠ 0 then (vb (w32 ((h7 r1 0) - 2)) fun z8 => if z8 ≤ 0 then (w_X10_chart_76 K  (h (-1) 0) a0 x2 x3 x4 x5 x6 r1 z8 0 x4 h7) else (w_X10_chart_76 K  (h (-1) 0) a0 x2 x3 x4 x5 x6 r1 z8 1 x4 h7)) else (w_X10_chart_53 K  (h (-1) 0) a0  h7)))))) else (w_X10_chart_34 K  (h (-1) 0) a0  h2)))))
set_option maxRecDepth 100000 in
set_option maxHeartbeats 4000000 in
theorem t_X10_chart {G : Gx} (a0 x1 x2 x3 x4 x5 x6 : Int) (h : Hh) (K : Int → Hh → Prop) (h0 : 0 ≤ a0) (hf : w_X10_chart a0 x1 x2 x3 x4 x5 x6 h K) : CT G M_X10_chart rm_X10_chart 7 32 [] [vr 10 a0 0, vi x1, vi x2, vi x3, vi x4, vi x5, vi x6] h K := by
  unfold w_X10_chart at hf
  refine CT.of (ls0 := [(0, vr 10 a0 0), (1, vi x1), (2, vi x2), (3, vi x3), (4, vi x4), (5, vi x5), (6, vi x6)]) (plainFor_of_name (by decide +kernel)) (by decide +kernel) (Nat.le_of_ble_eq_true rfl) rfl rfl ?_
  refine p_aload_n dX10_chart_0 rfl 0 rfl ?_
  refine p_iload_n dX10_chart_1 rfl 1 rfl ?_
  refine p_callVr (Cn := "ThreadCharts$Rule") dX10_chart_2 M_X10_ruleAt rfl [vi x1] (t_X10_ruleAt _ _ _ _ h0 hf) ok_X10_ruleAt rfl (c := 10) (by decide) h0 rfl tb_385 ⟨tb_387, ts_11⟩ rfl (Nat.le_of_ble_eq_true rfl) ⟨rfl, rfl⟩ ⟨by decide, by decide⟩ ⟨by decide, by decide⟩ (fun r1 h2 hf => ?_)
  refine p_astore (ls' := [(7, vr 7 r1 0), (0, vr 10 a0 0), (1, vi x1), (2, vi x2), (3, vi x3), (4, vi x4), (5, vi x5), (6, vi x6)]) dX10_chart_5 (by decide) rfl ?_
  refine p_aload dX10_chart_7 0 rfl ?_
  refine p_ifnull (tgt := 34) dX10_chart_9 (by decide) (by decide) (fun hc => ?_) (fun hc => ?_)
  · replace hf := Eq.mp (if_pos hc) hf
    refine p_sub (ls' := []) [] rfl ?_
    exact t_X10_chart_34 h0   _ hf
  · replace hf := Eq.mp (if_neg hc) hf
    refine p_aload_n dX10_chart_12 rfl 1 rfl ?_
    refine p_get (c := 10) (vi (h2 a0 5)) dX10_chart_13 5 tb_232 (by decide) (by decide) (Or.inl rfl) h0 rfl rfl ?_
    refine p_bipush dX10_chart_16 (by decide) (by decide) ?_
    refine p_icmp_ge (tgt := 34) (q := h2 a0 5 ≥ 6) dX10_chart_18 (by decide) Iff.rfl (fun hc => ?_) (fun hc => ?_)
    · replace hf := Eq.mp (if_pos hc) hf
      refine p_sub (ls' := []) [] rfl ?_
      exact t_X10_chart_34 h0   _ hf
    · replace hf := Eq.mp (if_neg hc) hf
      refine p_iload_n dX10_chart_21 rfl 4 rfl ?_
      refine p_bipush dX10_chart_22 (by decide) (by decide) ?_
      refine p_icmp_lt (tgt := 34) (q := x3 < 10) dX10_chart_24 (by decide) Iff.rfl (fun hc => ?_) (fun hc => ?_)
      · replace hf := Eq.mp (if_pos hc) hf
        refine p_sub (ls' := []) [] rfl ?_
        exact t_X10_chart_34 h0   _ hf
      · replace hf := Eq.mp (if_neg hc) hf
        refine p_iload_n dX10_chart_27 rfl 4 rfl ?_
        refine p_sipush dX10_chart_28 (by decide) (by decide) ?_
        refine p_icmp_le (tgt := 36) (q := x3 ≤ 1000) dX10_chart_31 (by decide) Iff.rfl (fun hc => ?_) (fun hc => ?_)
        · replace hf := Eq.mp (if_pos hc) hf
          refine p_aload dX10_chart_36 0 rfl ?_
          obtain ⟨c3, hf⟩ := hf
          refine p_callVNi dX10_chart_38 M_X7_hasAllRanges (Or.inr rfl) [] (t_X7_hasAllRanges _ _ _ c3 hf) ok_X7_hasAllRanges rfl (c := 7) (by decide) c3 rfl tb_454 ⟨tb_456, ts_20⟩ rfl (Nat.le_of_ble_eq_true rfl) ⟨rfl, rfl⟩ ⟨by decide, by decide⟩ ⟨by decide, by decide⟩ (fun r4 h5 hf => ?_)
          refine p_if_eq (tgt := 53) (q := r4 = 0) dX10_chart_41 (by decide) Iff.rfl (fun hc => ?_) (fun hc => ?_)
          · replace hf := Eq.mp (if_pos hc) hf
            refine p_sub (ls' := []) [] rfl ?_
            exact t_X10_chart_53 h0   _ hf
          · replace hf := Eq.mp (if_neg hc) hf
            refine p_aload dX10_chart_44 0 rfl ?_
            refine p_iload_n dX10_chart_46 rfl 3 rfl ?_
            refine p_callVNi dX10_chart_47 M_X7_isOrder (Or.inr rfl) [vi x2] (t_X7_isOrder _ _ _ _ c3 hf) ok_X7_isOrder rfl (c := 7) (by decide) c3 rfl tb_458 ⟨tb_460, ts_21⟩ rfl (Nat.le_of_ble_eq_true rfl) ⟨rfl, rfl⟩ ⟨by decide, by decide⟩ ⟨by decide, by decide⟩ (fun r6 h7 hf => ?_)
            refine p_if_ne (tgt := 55) (q := r6 ≠ 0) dX10_chart_50 (by decide) Iff.rfl (fun hc => ?_) (fun hc => ?_)
            · replace hf := Eq.mp (if_pos hc) hf
              refine p_aload dX10_chart_55 0 rfl ?_
              refine p_getN (c := 7) (vi (h7 r1 0)) dX10_chart_57 0 tb_355 (by decide) (by decide) (Or.inl rfl) c3 rfl rfl ?_
              refine p_iconst dX10_chart_60 (by decide) ?_
              refine p_isub dX10_chart_61 ?_
              refine p_istore (ls' := [(8, vi (w32 ((h7 r1 0) - 2))), (7, vr 7 r1 0), (0, vr 10 a0 0), (1, vi x1), (2, vi x2), (3, vi x3), (4, vi x4), (5, vi x5), (6, vi x6)]) dX10_chart_62 (by decide) rfl ?_
              replace hf := vb_e hf
              generalize (w32 ((h7 r1 0) - 2)) = z8 at hf ⊢
              refine p_iload dX10_chart_64 6 rfl ?_
              refine p_iload dX10_chart_66 0 rfl ?_
              refine p_if_le (tgt := 75) (q := z8 ≤ 0) dX10_chart_68 (by decide) Iff.rfl (fun hc => ?_) (fun hc => ?_)
              · replace hf := Eq.mp (if_pos hc) hf
                refine p_iconst dX10_chart_75 (by decide) ?_
                refine p_sub (ls' := [(0, vr 10 a0 0), (2, vi x2), (3, vi x3), (4, vi x4), (5, vi x5), (6, vi x6), (7, vr 7 r1 0), (8, vi z8)]) [2, 4, 5, 6, 7, 8, 1, 0] rfl ?_
                exact t_X10_chart_76 h0  _ _ _ _ _ _ _ _ _ _ hf
              · replace hf := Eq.mp (if_neg hc) hf
                refine p_iconst dX10_chart_71 (by decide) ?_
                refine p_goto (tgt := 76) dX10_chart_72 (by decide) ?_
                refine p_sub (ls' := [(0, vr 10 a0 0), (2, vi x2), (3, vi x3), (4, vi x4), (5, vi x5), (6, vi x6), (7, vr 7 r1 0), (8, vi z8)]) [2, 4, 5, 6, 7, 8, 1, 0] rfl ?_
                exact t_X10_chart_76 h0  _ _ _ _ _ _ _ _ _ _ hf
            · replace hf := Eq.mp (if_neg hc) hf
              refine p_sub (ls' := []) [] rfl ?_
              exact t_X10_chart_53 h0   _ hf
        · replace hf := Eq.mp (if_neg hc) hf
          refine p_sub (ls' := []) [] rfl ?_
          exact t_X10_chart_34 h0   _ hf
theorem ok_X10_chart : mOK M_X10_chart 6 := ⟨tb_453, tb_1, by decide +kernel⟩
abbrev M_X10_chartAt : MD := (yX10_chartAt, cX10_chartAt, 2, some (.object "ThreadCharts$Chart"))
abbrev rm_X10_chartAt : Room := { frames := 0, cells := 0, slots := 0, locals := 0 }
def w_X10_chartAt_22 (K : Int → Hh → Prop) (a0 : Int) (s0 : Int) (h : Hh) : Prop := K s0 h
set_option maxRecDepth 100000 in
set_option maxHeartbeats 4000000 in
theorem t_X10_chartAt_22 {G : Gx} {n0 : Int} {K : Int → Hh → Prop} {a0 : Int} (h0 : 0 ≤ a0)  (s0 : Int) (h : Hh) (hf : w_X10_chartAt_22 K  a0 s0 h) : PW G M_X10_chartAt rm_X10_chartAt 0 0 [] n0 K 22 [] [vr 0 s0 0] [] 0 0 h := by
  unfold w_X10_chartAt_22 at hf
  exact p_aret (Cn := "ThreadCharts$Chart") dX10_chartAt_22 rfl (by decide) (by decide) (by decide) (fun _ h => absurd h List.not_mem_nil) hf
def w_X10_chartAt_21 (K : Int → Hh → Prop) (a0 : Int) (h : Hh) : Prop := w_X10_chartAt_22 K  a0 (-1) h
set_option maxRecDepth 100000 in
set_option maxHeartbeats 4000000 in
theorem t_X10_chartAt_21 {G : Gx} {n0 : Int} {K : Int → Hh → Prop} {a0 : Int} (h0 : 0 ≤ a0)  (h : Hh) (hf : w_X10_chartAt_21 K  a0  h) : PW G M_X10_chartAt rm_X10_chartAt 0 0 [] n0 K 21 [] [] [] 0 0 h := by
  unfold w_X10_chartAt_21 at hf
  refine p_null (t := 0) dX10_chartAt_21 (by decide) ?_
  exact t_X10_chartAt_22 h0  _ _ hf
def w_X10_chartAt (a0 x1 : Int) (h : Hh) (K : Int → Hh → Prop) : Prop := if x1 < 0 then (w_X10_chartAt_21 K  a0  h) else (if x1 ≥ h a0 5 then (w_X10_chartAt_21 K  a0  h) else (((0 : Int) ≤ x1 ∧ (x1 : Int) < 6) ∧ (w_X10_chartAt_22 K  a0 (h (a0 + 7) x1) h)))
set_option maxRecDepth 100000 in
set_option maxHeartbeats 4000000 in
theorem t_X10_chartAt {G : Gx} (a0 x1 : Int) (h : Hh) (K : Int → Hh → Prop) (h0 : 0 ≤ a0) (hf : w_X10_chartAt a0 x1 h K) : CT G M_X10_chartAt rm_X10_chartAt 0 0 [] [vr 10 a0 0, vi x1] h K := by
  unfold w_X10_chartAt at hf
  refine CT.of (ls0 := [(0, vr 10 a0 0), (1, vi x1)]) (plainFor_of_name (by decide +kernel)) (by decide +kernel) (Nat.le_of_ble_eq_true rfl) rfl rfl ?_
  refine p_iload_n dX10_chartAt_0 rfl 1 rfl ?_
  refine p_if_lt (tgt := 21) (q := x1 < 0) dX10_chartAt_1 (by decide) Iff.rfl (fun hc => ?_) (fun hc => ?_)
  · replace hf := Eq.mp (if_pos hc) hf
    refine p_sub (ls' := []) [] rfl ?_
    exact t_X10_chartAt_21 h0   _ hf
  · replace hf := Eq.mp (if_neg hc) hf
    refine p_iload_n dX10_chartAt_4 rfl 1 rfl ?_
    refine p_aload_n dX10_chartAt_5 rfl 0 rfl ?_
    refine p_get (c := 10) (vi (h a0 5)) dX10_chartAt_6 5 tb_232 (by decide) (by decide) (Or.inl rfl) h0 rfl rfl ?_
    refine p_icmp_ge (tgt := 21) (q := x1 ≥ h a0 5) dX10_chartAt_9 (by decide) Iff.rfl (fun hc => ?_) (fun hc => ?_)
    · replace hf := Eq.mp (if_pos hc) hf
      refine p_sub (ls' := []) [] rfl ?_
      exact t_X10_chartAt_21 h0   _ hf
    · replace hf := Eq.mp (if_neg hc) hf
      refine p_aload_n dX10_chartAt_12 rfl 0 rfl ?_
      refine p_lay (c := 10) (tq := 104) (n := 6) dX10_chartAt_13 4 7 tb_231 (by decide) (by decide) h0 (by decide) (by decide) (fun _ => rfl) (vr 104 (a0 + 7) 6) rfl ?_
      refine p_iload_n dX10_chartAt_16 rfl 1 rfl ?_
      obtain ⟨c1, hf⟩ := hf
      refine p_aald0 dX10_chartAt_17 (nnk h0 (by decide)) c1 ?_
      refine p_goto (tgt := 22) dX10_chartAt_18 (by decide) ?_
      refine p_sub (ls' := []) [] rfl ?_
      exact t_X10_chartAt_22 h0  _ _ hf
theorem ok_X10_chartAt : mOK M_X10_chartAt 1 := ⟨tb_578, tb_1, by decide +kernel⟩
abbrev M_X10_reading : MD := (yX10_reading, cX10_reading, 4, some .boolean)
abbrev rm_X10_reading : Room := { frames := 3, cells := 0, slots := 0, locals := 66 }
def w_X10_reading_18 (K : Int → Hh → Prop) (a0 : Int) (h : Hh) : Prop := K 0 h
set_option maxRecDepth 100000 in
set_option maxHeartbeats 4000000 in
theorem t_X10_reading_18 {G : Gx} {n0 : Int} {K : Int → Hh → Prop} {a0 : Int} (h0 : 0 ≤ a0)  (h : Hh) (hf : w_X10_reading_18 K  a0  h) : PW G M_X10_reading rm_X10_reading 0 0 [] n0 K 18 [] [] [] 0 0 h := by
  unfold w_X10_reading_18 at hf
  refine p_iconst dX10_reading_18 (by decide) ?_
  exact p_zret dX10_reading_19 rfl (by decide) (by decide) (fun _ h => absurd h List.not_mem_nil) (Or.inl rfl) hf
def w_X10_reading (a0 x1 x2 : Int) (h : Hh) (K : Int → Hh → Prop) : Prop := w_X10_chartAt a0 x1 h (fun r1 h2 => if r1 = -1 then (w_X10_reading_18 K  a0  h2) else (0 ≤ r1 ∧ (w_X0_hasMarks r1 x2 h2 (fun r4 h5 => if r4 ≠ 0 then (hb (up h5 a0 9 r1) fun h6 => hb (up h6 a0 10 x2) fun h7 => K 1 h7) else (w_X10_reading_18 K  a0  h5)))))
set_option maxRecDepth 100000 in
set_option maxHeartbeats 4000000 in
theorem t_X10_reading {G : Gx} (a0 x1 x2 : Int) (h : Hh) (K : Int → Hh → Prop) (h0 : 0 ≤ a0) (hf : w_X10_reading a0 x1 x2 h K) : CT G M_X10_reading rm_X10_reading 0 0 [] [vr 10 a0 0, vi x1, vi x2] h K := by
  unfold w_X10_reading at hf
  refine CT.of (ls0 := [(0, vr 10 a0 0), (1, vi x1), (2, vi x2)]) (plainFor_of_name (by decide +kernel)) (by decide +kernel) (Nat.le_of_ble_eq_true rfl) rfl rfl ?_
  refine p_aload_n dX10_reading_0 rfl 0 rfl ?_
  refine p_iload_n dX10_reading_1 rfl 1 rfl ?_
  refine p_callVr (Cn := "ThreadCharts$Chart") dX10_reading_2 M_X10_chartAt rfl [vi x1] (t_X10_chartAt _ _ _ _ h0 hf) ok_X10_chartAt rfl (c := 10) (by decide) h0 rfl tb_575 ⟨tb_577, ts_29⟩ rfl (Nat.le_of_ble_eq_true rfl) ⟨rfl, rfl⟩ ⟨by decide, by decide⟩ ⟨by decide, by decide⟩ (fun r1 h2 hf => ?_)
  refine p_astore_n (ls' := [(3, vr 0 r1 0), (0, vr 10 a0 0), (1, vi x1), (2, vi x2)]) dX10_reading_5 rfl (by decide) rfl ?_
  refine p_aload_n dX10_reading_6 rfl 0 rfl ?_
  refine p_ifnull (tgt := 18) dX10_reading_7 (by decide) (by decide) (fun hc => ?_) (fun hc => ?_)
  · replace hf := Eq.mp (if_pos hc) hf
    refine p_sub (ls' := []) [] rfl ?_
    exact t_X10_reading_18 h0   _ hf
  · replace hf := Eq.mp (if_neg hc) hf
    refine p_aload_n dX10_reading_10 rfl 0 rfl ?_
    refine p_iload_n dX10_reading_11 rfl 3 rfl ?_
    obtain ⟨c3, hf⟩ := hf
    refine p_callVNi dX10_reading_12 M_X0_hasMarks (Or.inr rfl) [vi x2] (t_X0_hasMarks _ _ _ _ c3 hf) ok_X0_hasMarks rfl (c := 0) (by decide) c3 rfl tb_579 ⟨tb_581, ts_30⟩ rfl (Nat.le_of_ble_eq_true rfl) ⟨rfl, rfl⟩ ⟨by decide, by decide⟩ ⟨by decide, by decide⟩ (fun r4 h5 hf => ?_)
    refine p_if_ne (tgt := 20) (q := r4 ≠ 0) dX10_reading_15 (by decide) Iff.rfl (fun hc => ?_) (fun hc => ?_)
    · replace hf := Eq.mp (if_pos hc) hf
      refine p_aload_n dX10_reading_20 rfl 1 rfl ?_
      refine p_aload_n dX10_reading_21 rfl 0 rfl ?_
      refine p_putr (c := 10) (Cn := "ThreadCharts$Chart") dX10_reading_22 9 tb_236 (by decide) (by decide) (Or.inl rfl) h0 rfl rfl (fun _ => by decide) (up h5 a0 9 r1) rfl ?_
      replace hf := hb_e hf
      generalize up h5 a0 9 r1 = h6 at hf ⊢
      refine p_aload_n dX10_reading_25 rfl 1 rfl ?_
      refine p_iload_n dX10_reading_26 rfl 3 rfl ?_
      refine p_puti (c := 10) dX10_reading_27 10 tb_237 (by decide) (by decide) (Or.inl rfl) h0 rfl rfl (fun _ => by decide) (up h6 a0 10 x2) rfl ?_
      replace hf := hb_e hf
      generalize up h6 a0 10 x2 = h7 at hf ⊢
      refine p_iconst dX10_reading_30 (by decide) ?_
      exact p_zret dX10_reading_31 rfl (by decide) (by decide) (fun _ h => absurd h List.not_mem_nil) (Or.inr rfl) hf
    · replace hf := Eq.mp (if_neg hc) hf
      refine p_sub (ls' := []) [] rfl ?_
      exact t_X10_reading_18 h0   _ hf
theorem ok_X10_reading : mOK M_X10_reading 2 := ⟨tb_574, tb_1, by decide +kernel⟩
abbrev M_X10_layAsKnown : MD := (yX10_layAsKnown, cX10_layAsKnown, 8, none)
abbrev rm_X10_layAsKnown : Room := { frames := 3, cells := 0, slots := 0, locals := 65 }
def w_X10_layAsKnown_79 (K : Int → Hh → Prop) (B : Int → Int → Int → Int → Hh → Prop) (a0 : Int) (v1 v2 v3 v4 s0 s1 s2 s2n : Int) (h : Hh) : Prop := 0 ≤ s2 ∧ (((0 : Int) ≤ s1 ∧ (s1 : Int) < s2n) ∧ (hb (up h s2 s1 s0) fun h10 => vb (w32 (v4 + 1)) fun z11 => B v1 v2 v3 z11 h10))
set_option maxRecDepth 100000 in
set_option maxHeartbeats 4000000 in
theorem t_X10_layAsKnown_79 {G : Gx} {n0 : Int} {K : Int → Hh → Prop} {B : Int → Int → Int → Int → Hh → Prop} {a0 : Int} (h0 : 0 ≤ a0) (hB : ∀ (v1 v2 v3 v4 : Int) (h : Hh), B v1 v2 v3 v4 h → PW G M_X10_layAsKnown rm_X10_layAsKnown 0 0 [] n0 K 3 [(0, vr 10 a0 0), (1, vr 0 v1 0), (2, vi v2), (3, vi v3), (4, vi v4)] [] [] 0 0 h)  (v1 v2 v3 v4 s0 s1 s2 s2n : Int) (h : Hh) (hf : w_X10_layAsKnown_79 K B a0 v1 v2 v3 v4 s0 s1 s2 s2n h) : PW G M_X10_layAsKnown rm_X10_layAsKnown 0 0 [] n0 K 79 [(0, vr 10 a0 0), (1, vr 0 v1 0), (2, vi v2), (3, vi v3), (4, vi v4)] [vl s0, vi s1, vr 101 s2 s2n] [] 0 0 h := by
  unfold w_X10_layAsKnown_79 at hf
  obtain ⟨c8, hf⟩ := hf
  obtain ⟨c9, hf⟩ := hf
  refine p_last dX10_layAsKnown_79 c8 c9 ?_
  replace hf := hb_e hf
  generalize up h s2 s1 s0 = h10 at hf ⊢
  refine p_iinc (ls' := [(4, vi (w32 (v4 + 1))), (0, vr 10 a0 0), (1, vr 0 v1 0), (2, vi v2), (3, vi v3)]) dX10_layAsKnown_80 4 rfl (by decide) rfl ?_
  replace hf := vb_e hf
  generalize w32 (v4 + 1) = z11 at hf ⊢
  refine p_goto (tgt := 3) dX10_layAsKnown_83 (by decide) ?_
  refine p_sub (ls' := [(0, vr 10 a0 0), (1, vr 0 v1 0), (2, vi v2), (3, vi v3), (4, vi z11)]) [1, 2, 3, 4, 0] rfl ?_
  exact hB _ _ _ _ _ hf
def w_X10_layAsKnown_3 (K : Int → Hh → Prop) (a0 : Int) : Nat → Int → Int → Int → Int → Hh → Prop
  | 0, _, _, _, _, _ => False
  | n + 1, v1, v2, v3, v4, h => 0 ≤ v1 ∧ (if v4 ≥ h v1 2 then (K 0 h) else (((0 : Int) ≤ v4 ∧ (v4 : Int) < 4) ∧ (vb (h (v1 + 1) v4) fun z3 => w_X0_markAt v1 v2 v4 h (fun r4 h5 => w_X1_numberOn (a0 + 9) v3 (h5 v1 1) z3 r4 h5 (fun r6 h7 => if r6 ≠ (-2147483648) then (w_X10_layAsKnown_79 K (w_X10_layAsKnown_3 K  a0 n) a0 v1 v2 v3 v4 r6 v4 (a0 + 23) 4 h7) else (0 ≤ h7 v1 0 ∧ (w_X7_signedOf (h7 v1 0) z3 r4 h7 (fun r13 h14 => w_X10_layAsKnown_79 K (w_X10_layAsKnown_3 K  a0 n) a0 v1 v2 v3 v4 r13 v4 (a0 + 23) 4 h14))))))))
set_option maxRecDepth 100000 in
set_option maxHeartbeats 4000000 in
theorem t_X10_layAsKnown_3 {G : Gx} {n0 : Int} {K : Int → Hh → Prop} {a0 : Int} (h0 : 0 ≤ a0) : ∀ (n : Nat) (v1 v2 v3 v4 : Int) (h : Hh), w_X10_layAsKnown_3 K  a0 n v1 v2 v3 v4 h → PW G M_X10_layAsKnown rm_X10_layAsKnown 0 0 [] n0 K 3 [(0, vr 10 a0 0), (1, vr 0 v1 0), (2, vi v2), (3, vi v3), (4, vi v4)] [] [] 0 0 h := by
  intro n
  induction n with
  | zero =>
    intro v1 v2 v3 v4 h hf
    rw [w_X10_layAsKnown_3] at hf
    exact hf.elim
  | succ n ih =>
    intro v1 v2 v3 v4 h hf
    rw [w_X10_layAsKnown_3] at hf
    refine p_iload dX10_layAsKnown_3 4 rfl ?_
    refine p_aload_n dX10_layAsKnown_5 rfl 1 rfl ?_
    obtain ⟨c1, hf⟩ := hf
    refine p_getN (c := 0) (vi (h v1 2)) dX10_layAsKnown_6 2 tb_497 (by decide) (by decide) (Or.inl rfl) c1 rfl rfl ?_
    refine p_icmp_ge (tgt := 86) (q := v4 ≥ h v1 2) dX10_layAsKnown_9 (by decide) Iff.rfl (fun hc => ?_) (fun hc => ?_)
    · replace hf := Eq.mp (if_pos hc) hf
      exact p_vret dX10_layAsKnown_86 rfl (by decide) (by decide) (fun _ h => absurd h List.not_mem_nil) hf
    · replace hf := Eq.mp (if_neg hc) hf
      refine p_aload_n dX10_layAsKnown_12 rfl 1 rfl ?_
      refine p_layN (c := 0) (tq := 100) (n := 4) dX10_layAsKnown_13 5 1 tb_504 (by decide) (by decide) c1 (by decide) (by decide) (fun _ => rfl) (vr 100 (v1 + 1) 4) rfl ?_
      refine p_iload dX10_layAsKnown_16 4 rfl ?_
      obtain ⟨c2, hf⟩ := hf
      refine p_iald dX10_layAsKnown_18 (nnk c1 (by decide)) c2 ?_
      refine p_istore (ls' := [(5, vi (h (v1 + 1) v4)), (0, vr 10 a0 0), (1, vr 0 v1 0), (2, vi v2), (3, vi v3), (4, vi v4)]) dX10_layAsKnown_19 (by decide) rfl ?_
      replace hf := vb_e hf
      generalize (h (v1 + 1) v4) = z3 at hf ⊢
      refine p_aload_n dX10_layAsKnown_21 rfl 2 rfl ?_
      refine p_iload_n dX10_layAsKnown_22 rfl 3 rfl ?_
      refine p_iload dX10_layAsKnown_23 5 rfl ?_
      refine p_callVNi dX10_layAsKnown_25 M_X0_markAt (Or.inl rfl) [vi v2, vi v4] (t_X0_markAt _ _ _ _ _ c1 hf) ok_X0_markAt rfl (c := 0) (by decide) c1 rfl tb_596 ⟨tb_598, ts_33⟩ rfl (Nat.le_of_ble_eq_true rfl) ⟨rfl, rfl⟩ ⟨by decide, by decide⟩ ⟨by decide, by decide⟩ (fun r4 h5 hf => ?_)
      refine p_istore (ls' := [(6, vi r4), (5, vi z3), (0, vr 10 a0 0), (1, vr 0 v1 0), (2, vi v2), (3, vi v3), (4, vi v4)]) dX10_layAsKnown_28 (by decide) rfl ?_
      refine p_aload_n dX10_layAsKnown_30 rfl 2 rfl ?_
      refine p_lay (c := 10) (tq := 1) (n := 0) dX10_layAsKnown_31 11 9 tb_238 (by decide) (by decide) h0 (by decide) (by decide) (fun _ => rfl) (vr 1 (a0 + 9) 0) rfl ?_
      refine p_iload_n dX10_layAsKnown_34 rfl 5 rfl ?_
      refine p_aload_n dX10_layAsKnown_35 rfl 3 rfl ?_
      refine p_getN (c := 0) (vi (h5 v1 1)) dX10_layAsKnown_36 1 tb_493 (by decide) (by decide) (Or.inl rfl) c1 rfl rfl ?_
      refine p_iload dX10_layAsKnown_39 1 rfl ?_
      refine p_iload dX10_layAsKnown_41 0 rfl ?_
      refine p_callVNi dX10_layAsKnown_43 M_X1_numberOn (Or.inl rfl) [vi v3, vi (h5 v1 1), vi z3, vi r4] (t_X1_numberOn _ _ _ _ _ _ _ (nnk h0 (by decide)) hf) ok_X1_numberOn rfl (c := 1) (by decide) (nnk h0 (by decide)) rfl tb_600 ⟨tb_602, ts_34⟩ rfl (Nat.le_of_ble_eq_true rfl) ⟨rfl, rfl⟩ ⟨by decide, by decide⟩ ⟨by decide, by decide⟩ (fun r6 h7 hf => ?_)
      refine p_istore (ls' := [(7, vi r6), (6, vi r4), (5, vi z3), (0, vr 10 a0 0), (1, vr 0 v1 0), (2, vi v2), (3, vi v3), (4, vi v4)]) dX10_layAsKnown_46 (by decide) rfl ?_
      refine p_aload_n dX10_layAsKnown_48 rfl 3 rfl ?_
      refine p_lay (c := 10) (tq := 101) (n := 4) dX10_layAsKnown_49 13 23 tb_240 (by decide) (by decide) h0 (by decide) (by decide) (fun _ => rfl) (vr 101 (a0 + 23) 4) rfl ?_
      refine p_iload dX10_layAsKnown_52 7 rfl ?_
      refine p_iload dX10_layAsKnown_54 0 rfl ?_
      refine p_ldc (z := (-2147483648)) dX10_layAsKnown_56 tb_389 (by decide) ?_
      refine p_icmp_ne (tgt := 76) (q := r6 ≠ (-2147483648)) dX10_layAsKnown_58 (by decide) Iff.rfl (fun hc => ?_) (fun hc => ?_)
      · replace hf := Eq.mp (if_pos hc) hf
        refine p_iload dX10_layAsKnown_76 0 rfl ?_
        refine p_i2l dX10_layAsKnown_78 ?_
        refine p_sub (ls' := [(0, vr 10 a0 0), (1, vr 0 v1 0), (2, vi v2), (3, vi v3), (4, vi v4)]) [3, 4, 5, 6, 7] rfl ?_
        exact t_X10_layAsKnown_79 h0 ih _ _ _ _ _ _ _ _ _ hf
      · replace hf := Eq.mp (if_neg hc) hf
        refine p_aload_n dX10_layAsKnown_61 rfl 4 rfl ?_
        refine p_getN (c := 0) (vr 7 (h7 v1 0) 0) dX10_layAsKnown_62 0 tb_491 (by decide) (by decide) (Or.inl rfl) c1 rfl rfl ?_
        refine p_iload dX10_layAsKnown_65 2 rfl ?_
        refine p_iload dX10_layAsKnown_67 1 rfl ?_
        obtain ⟨c12, hf⟩ := hf
        refine p_callVNi dX10_layAsKnown_69 M_X7_signedOf (Or.inl rfl) [vi z3, vi r4] (t_X7_signedOf _ _ _ _ _ c12 hf) ok_X7_signedOf rfl (c := 7) (by decide) c12 rfl tb_605 ⟨tb_549, ts_24⟩ rfl (Nat.le_of_ble_eq_true rfl) ⟨rfl, rfl⟩ ⟨by decide, by decide⟩ ⟨by decide, by decide⟩ (fun r13 h14 hf => ?_)
        refine p_i2l dX10_layAsKnown_72 ?_
        refine p_goto (tgt := 79) dX10_layAsKnown_73 (by decide) ?_
        refine p_sub (ls' := [(0, vr 10 a0 0), (1, vr 0 v1 0), (2, vi v2), (3, vi v3), (4, vi v4)]) [3, 4, 5, 6, 7] rfl ?_
        exact t_X10_layAsKnown_79 h0 ih _ _ _ _ _ _ _ _ _ hf
def w_X10_layAsKnown (a0 x1 x2 x3 : Int) (h : Hh) (K : Int → Hh → Prop) : Prop := w_X10_layAsKnown_3 K  a0 NF x1 x2 x3 0 h
set_option maxRecDepth 100000 in
set_option maxHeartbeats 4000000 in
theorem t_X10_layAsKnown {G : Gx} (a0 x1 x2 x3 : Int) (h : Hh) (K : Int → Hh → Prop) (h0 : 0 ≤ a0) (hf : w_X10_layAsKnown a0 x1 x2 x3 h K) : CT G M_X10_layAsKnown rm_X10_layAsKnown 0 0 [] [vr 10 a0 0, vr 0 x1 0, vi x2, vi x3] h K := by
  unfold w_X10_layAsKnown at hf
  refine CT.of (ls0 := [(0, vr 10 a0 0), (1, vr 0 x1 0), (2, vi x2), (3, vi x3)]) (plainFor_of_name (by decide +kernel)) (by decide +kernel) (Nat.le_of_ble_eq_true rfl) rfl rfl ?_
  refine p_iconst dX10_layAsKnown_0 (by decide) ?_
  refine p_istore (ls' := [(4, vi 0), (0, vr 10 a0 0), (1, vr 0 x1 0), (2, vi x2), (3, vi x3)]) dX10_layAsKnown_1 (by decide) rfl ?_
  refine p_sub (ls' := [(0, vr 10 a0 0), (1, vr 0 x1 0), (2, vi x2), (3, vi x3), (4, vi 0)]) [1, 2, 3, 4, 0] rfl ?_
  refine t_X10_layAsKnown_3 h0  NF _ _ _ _ _ hf
theorem ok_X10_layAsKnown : mOK M_X10_layAsKnown 3 := ⟨tb_595, tb_1, by decide +kernel⟩
abbrev M_X10_readAsKnown : MD := (yX10_readAsKnown, cX10_readAsKnown, 4, some .long)
abbrev rm_X10_readAsKnown : Room := { frames := 4, cells := 0, slots := 0, locals := 99 }
def w_X10_readAsKnown (a0 x1 x2 x3 : Int) (h : Hh) (K : Int → Hh → Prop) : Prop := w_X10_layAsKnown a0 x1 x2 x3 h (fun _ h1 => 0 ≤ x1 ∧ (w_X9_along (a0 + 24) x1 (a0 + 23) 4 (w32 ((h1 x1 3) - 1)) h1 (fun _ h3 => 0 ≤ h3 x1 0 ∧ (K (w64 ((h3 (a0 + 24) 3) + (h3 (h3 x1 0) 1))) h3))))
set_option maxRecDepth 100000 in
set_option maxHeartbeats 4000000 in
theorem t_X10_readAsKnown {G : Gx} (a0 x1 x2 x3 : Int) (h : Hh) (K : Int → Hh → Prop) (h0 : 0 ≤ a0) (hf : w_X10_readAsKnown a0 x1 x2 x3 h K) : CT G M_X10_readAsKnown rm_X10_readAsKnown 0 0 [] [vr 10 a0 0, vr 0 x1 0, vi x2, vi x3] h K := by
  unfold w_X10_readAsKnown at hf
  refine CT.of (ls0 := [(0, vr 10 a0 0), (1, vr 0 x1 0), (2, vi x2), (3, vi x3)]) (plainFor_of_name (by decide +kernel)) (by decide +kernel) (Nat.le_of_ble_eq_true rfl) rfl rfl ?_
  refine p_aload_n dX10_readAsKnown_0 rfl 0 rfl ?_
  refine p_aload_n dX10_readAsKnown_1 rfl 1 rfl ?_
  refine p_iload_n dX10_readAsKnown_2 rfl 2 rfl ?_
  refine p_iload_n dX10_readAsKnown_3 rfl 3 rfl ?_
  refine p_callVv dX10_readAsKnown_4 M_X10_layAsKnown rfl [vr 0 x1 0, vi x2, vi x3] (t_X10_layAsKnown _ _ _ _ _ _ h0 hf) ok_X10_layAsKnown rfl (c := 10) (by decide) h0 rfl tb_592 ⟨tb_594, ts_32⟩ rfl (Nat.le_of_ble_eq_true rfl) ⟨rfl, rfl⟩ ⟨by decide, by decide⟩ ⟨by decide, by decide⟩ (fun _ h1 hf => ?_)
  refine p_aload_n dX10_readAsKnown_7 rfl 0 rfl ?_
  refine p_lay (c := 10) (tq := 9) (n := 0) dX10_readAsKnown_8 14 24 tb_241 (by decide) (by decide) h0 (by decide) (by decide) (fun _ => rfl) (vr 9 (a0 + 24) 0) rfl ?_
  refine p_aload_n dX10_readAsKnown_11 rfl 1 rfl ?_
  refine p_aload_n dX10_readAsKnown_12 rfl 0 rfl ?_
  refine p_lay (c := 10) (tq := 101) (n := 4) dX10_readAsKnown_13 13 23 tb_240 (by decide) (by decide) h0 (by decide) (by decide) (fun _ => rfl) (vr 101 (a0 + 23) 4) rfl ?_
  refine p_aload_n dX10_readAsKnown_16 rfl 1 rfl ?_
  obtain ⟨c2, hf⟩ := hf
  refine p_getN (c := 0) (vi (h1 x1 3)) dX10_readAsKnown_17 3 tb_500 (by decide) (by decide) (Or.inl rfl) c2 rfl rfl ?_
  refine p_iconst dX10_readAsKnown_20 (by decide) ?_
  refine p_isub dX10_readAsKnown_21 ?_
  refine p_callVNv dX10_readAsKnown_22 M_X9_along rfl [vr 0 x1 0, vr 101 (a0 + 23) 4, vi (w32 ((h1 x1 3) - 1))] (t_X9_along _ _ _ _ _ _ _ (nnk h0 (by decide)) hf) ok_X9_along rfl (c := 9) (by decide) (nnk h0 (by decide)) rfl tb_606 ⟨tb_608, ts_35⟩ rfl (Nat.le_of_ble_eq_true rfl) ⟨rfl, rfl⟩ ⟨by decide, by decide⟩ ⟨by decide, by decide⟩ (fun _ h3 hf => ?_)
  refine p_aload_n dX10_readAsKnown_25 rfl 0 rfl ?_
  refine p_lay (c := 10) (tq := 9) (n := 0) dX10_readAsKnown_26 14 24 tb_241 (by decide) (by decide) h0 (by decide) (by decide) (fun _ => rfl) (vr 9 (a0 + 24) 0) rfl ?_
  refine p_getN (c := 9) (vl (h3 (a0 + 24) 3)) dX10_readAsKnown_29 3 tb_159 (by decide) (by decide) (Or.inl rfl) (nnk h0 (by decide)) rfl rfl ?_
  refine p_aload_n dX10_readAsKnown_32 rfl 1 rfl ?_
  refine p_getN (c := 0) (vr 7 (h3 x1 0) 0) dX10_readAsKnown_33 0 tb_491 (by decide) (by decide) (Or.inl rfl) c2 rfl rfl ?_
  obtain ⟨c4, hf⟩ := hf
  refine p_getN (c := 7) (vi (h3 (h3 x1 0) 1)) dX10_readAsKnown_36 1 tb_357 (by decide) (by decide) (Or.inl rfl) c4 rfl rfl ?_
  refine p_i2l dX10_readAsKnown_39 ?_
  refine p_ladd dX10_readAsKnown_40 ?_
  exact p_lret dX10_readAsKnown_41 rfl (by decide) (by decide) (fun _ h => absurd h List.not_mem_nil) hf
theorem ok_X10_readAsKnown : mOK M_X10_readAsKnown 3 := ⟨tb_591, tb_1, by decide +kernel⟩
abbrev M_X10_layAsCut : MD := (yX10_layAsCut, cX10_layAsCut, 4, none)
abbrev rm_X10_layAsCut : Room := { frames := 3, cells := 0, slots := 0, locals := 65 }
def w_X10_layAsCut_2 (K : Int → Hh → Prop) (a0 : Int) : Nat → Int → Int → Int → Hh → Prop
  | 0, _, _, _, _ => False
  | n + 1, v1, v2, v3, h => 0 ≤ v1 ∧ (if v3 ≥ h v1 2 then (K 0 h) else (((0 : Int) ≤ v3 ∧ (v3 : Int) < 4) ∧ (w_X0_markAt v1 v2 v3 h (fun r3 h4 => 0 ≤ h v1 0 ∧ (w_X7_signedOf (h v1 0) (h (v1 + 1) v3) r3 h4 (fun r6 h7 => hb (up h7 (a0 + 23) v3 r6) fun h8 => vb (w32 (v3 + 1)) fun z9 => w_X10_layAsCut_2 K  a0 n v1 v2 z9 h8))))))
set_option maxRecDepth 100000 in
set_option maxHeartbeats 4000000 in
theorem t_X10_layAsCut_2 {G : Gx} {n0 : Int} {K : Int → Hh → Prop} {a0 : Int} (h0 : 0 ≤ a0) : ∀ (n : Nat) (v1 v2 v3 : Int) (h : Hh), w_X10_layAsCut_2 K  a0 n v1 v2 v3 h → PW G M_X10_layAsCut rm_X10_layAsCut 0 0 [] n0 K 2 [(0, vr 10 a0 0), (1, vr 0 v1 0), (2, vi v2), (3, vi v3)] [] [] 0 0 h := by
  intro n
  induction n with
  | zero =>
    intro v1 v2 v3 h hf
    rw [w_X10_layAsCut_2] at hf
    exact hf.elim
  | succ n ih =>
    intro v1 v2 v3 h hf
    rw [w_X10_layAsCut_2] at hf
    refine p_iload_n dX10_layAsCut_2 rfl 3 rfl ?_
    refine p_aload_n dX10_layAsCut_3 rfl 1 rfl ?_
    obtain ⟨c1, hf⟩ := hf
    refine p_getN (c := 0) (vi (h v1 2)) dX10_layAsCut_4 2 tb_497 (by decide) (by decide) (Or.inl rfl) c1 rfl rfl ?_
    refine p_icmp_ge (tgt := 42) (q := v3 ≥ h v1 2) dX10_layAsCut_7 (by decide) Iff.rfl (fun hc => ?_) (fun hc => ?_)
    · replace hf := Eq.mp (if_pos hc) hf
      exact p_vret dX10_layAsCut_42 rfl (by decide) (by decide) (fun _ h => absurd h List.not_mem_nil) hf
    · replace hf := Eq.mp (if_neg hc) hf
      refine p_aload_n dX10_layAsCut_10 rfl 0 rfl ?_
      refine p_lay (c := 10) (tq := 101) (n := 4) dX10_layAsCut_11 13 23 tb_240 (by decide) (by decide) h0 (by decide) (by decide) (fun _ => rfl) (vr 101 (a0 + 23) 4) rfl ?_
      refine p_iload_n dX10_layAsCut_14 rfl 3 rfl ?_
      refine p_aload_n dX10_layAsCut_15 rfl 1 rfl ?_
      refine p_getN (c := 0) (vr 7 (h v1 0) 0) dX10_layAsCut_16 0 tb_491 (by decide) (by decide) (Or.inl rfl) c1 rfl rfl ?_
      refine p_aload_n dX10_layAsCut_19 rfl 1 rfl ?_
      refine p_layN (c := 0) (tq := 100) (n := 4) dX10_layAsCut_20 5 1 tb_504 (by decide) (by decide) c1 (by decide) (by decide) (fun _ => rfl) (vr 100 (v1 + 1) 4) rfl ?_
      refine p_iload_n dX10_layAsCut_23 rfl 3 rfl ?_
      obtain ⟨c2, hf⟩ := hf
      refine p_iald dX10_layAsCut_24 (nnk c1 (by decide)) c2 ?_
      refine p_aload_n dX10_layAsCut_25 rfl 1 rfl ?_
      refine p_iload_n dX10_layAsCut_26 rfl 2 rfl ?_
      refine p_iload_n dX10_layAsCut_27 rfl 3 rfl ?_
      refine p_callVNi dX10_layAsCut_28 M_X0_markAt (Or.inl rfl) [vi v2, vi v3] (t_X0_markAt _ _ _ _ _ c1 hf) ok_X0_markAt rfl (c := 0) (by decide) c1 rfl tb_596 ⟨tb_598, ts_33⟩ rfl (Nat.le_of_ble_eq_true rfl) ⟨rfl, rfl⟩ ⟨by decide, by decide⟩ ⟨by decide, by decide⟩ (fun r3 h4 hf => ?_)
      obtain ⟨c5, hf⟩ := hf
      refine p_callVNi dX10_layAsCut_31 M_X7_signedOf (Or.inl rfl) [vi (h (v1 + 1) v3), vi r3] (t_X7_signedOf _ _ _ _ _ c5 hf) ok_X7_signedOf rfl (c := 7) (by decide) c5 rfl tb_605 ⟨tb_549, ts_24⟩ rfl (Nat.le_of_ble_eq_true rfl) ⟨rfl, rfl⟩ ⟨by decide, by decide⟩ ⟨by decide, by decide⟩ (fun r6 h7 hf => ?_)
      refine p_i2l dX10_layAsCut_34 ?_
      refine p_last dX10_layAsCut_35 (nnk h0 (by decide)) c2 ?_
      replace hf := hb_e hf
      generalize up h7 (a0 + 23) v3 r6 = h8 at hf ⊢
      refine p_iinc (ls' := [(3, vi (w32 (v3 + 1))), (0, vr 10 a0 0), (1, vr 0 v1 0), (2, vi v2)]) dX10_layAsCut_36 3 rfl (by decide) rfl ?_
      replace hf := vb_e hf
      generalize w32 (v3 + 1) = z9 at hf ⊢
      refine p_goto (tgt := 2) dX10_layAsCut_39 (by decide) ?_
      refine p_sub (ls' := [(0, vr 10 a0 0), (1, vr 0 v1 0), (2, vi v2), (3, vi z9)]) [1, 2, 3, 0] rfl ?_
      exact ih _ _ _ _ hf
def w_X10_layAsCut (a0 x1 x2 : Int) (h : Hh) (K : Int → Hh → Prop) : Prop := w_X10_layAsCut_2 K  a0 NF x1 x2 0 h
set_option maxRecDepth 100000 in
set_option maxHeartbeats 4000000 in
theorem t_X10_layAsCut {G : Gx} (a0 x1 x2 : Int) (h : Hh) (K : Int → Hh → Prop) (h0 : 0 ≤ a0) (hf : w_X10_layAsCut a0 x1 x2 h K) : CT G M_X10_layAsCut rm_X10_layAsCut 0 0 [] [vr 10 a0 0, vr 0 x1 0, vi x2] h K := by
  unfold w_X10_layAsCut at hf
  refine CT.of (ls0 := [(0, vr 10 a0 0), (1, vr 0 x1 0), (2, vi x2)]) (plainFor_of_name (by decide +kernel)) (by decide +kernel) (Nat.le_of_ble_eq_true rfl) rfl rfl ?_
  refine p_iconst dX10_layAsCut_0 (by decide) ?_
  refine p_istore_n (ls' := [(3, vi 0), (0, vr 10 a0 0), (1, vr 0 x1 0), (2, vi x2)]) dX10_layAsCut_1 rfl (by decide) rfl ?_
  refine p_sub (ls' := [(0, vr 10 a0 0), (1, vr 0 x1 0), (2, vi x2), (3, vi 0)]) [1, 2, 3, 0] rfl ?_
  refine t_X10_layAsCut_2 h0  NF _ _ _ _ hf
theorem ok_X10_layAsCut : mOK M_X10_layAsCut 2 := ⟨tb_651, tb_1, by decide +kernel⟩
abbrev M_X10_exactSum : MD := (yX10_exactSum, cX10_exactSum, 5, some .int)
abbrev rm_X10_exactSum : Room := { frames := 4, cells := 0, slots := 0, locals := 88 }
def w_X10_exactSum_21 (K : Int → Hh → Prop) (a0 : Int) : Nat → Int → Int → Int → Hh → Prop
  | 0, _, _, _, _ => False
  | n + 1, v1, v2, v4, h => 0 ≤ v1 ∧ (if v4 ≥ h v1 2 then (K (w32 v2) h) else (((0 : Int) ≤ v4 ∧ (v4 : Int) < 4) ∧ (vb (w64 (v2 + (h (a0 + 23) v4))) fun z7 => vb (w32 (v4 + 1)) fun z8 => w_X10_exactSum_21 K  a0 n v1 z7 z8 h)))
set_option maxRecDepth 100000 in
set_option maxHeartbeats 4000000 in
theorem t_X10_exactSum_21 {G : Gx} {n0 : Int} {K : Int → Hh → Prop} {a0 : Int} (h0 : 0 ≤ a0) : ∀ (n : Nat) (v1 v2 v4 : Int) (h : Hh), w_X10_exactSum_21 K  a0 n v1 v2 v4 h → PW G M_X10_exactSum rm_X10_exactSum 0 0 [] n0 K 21 [(0, vr 10 a0 0), (1, vr 0 v1 0), (2, vl v2), (4, vi v4)] [] [] 0 0 h := by
  intro n
  induction n with
  | zero =>
    intro v1 v2 v4 h hf
    rw [w_X10_exactSum_21] at hf
    exact hf.elim
  | succ n ih =>
    intro v1 v2 v4 h hf
    rw [w_X10_exactSum_21] at hf
    refine p_iload dX10_exactSum_21 3 rfl ?_
    refine p_aload_n dX10_exactSum_23 rfl 1 rfl ?_
    obtain ⟨c5, hf⟩ := hf
    refine p_getN (c := 0) (vi (h v1 2)) dX10_exactSum_24 2 tb_497 (by decide) (by decide) (Or.inl rfl) c5 rfl rfl ?_
    refine p_icmp_ge (tgt := 46) (q := v4 ≥ h v1 2) dX10_exactSum_27 (by decide) Iff.rfl (fun hc => ?_) (fun hc => ?_)
    · replace hf := Eq.mp (if_pos hc) hf
      refine p_lload_n dX10_exactSum_46 rfl 2 rfl ?_
      refine p_l2i dX10_exactSum_47 ?_
      exact p_iret dX10_exactSum_48 rfl (by decide) (by decide) (fun _ h => absurd h List.not_mem_nil) hf
    · replace hf := Eq.mp (if_neg hc) hf
      refine p_lload_n dX10_exactSum_30 rfl 2 rfl ?_
      refine p_aload_n dX10_exactSum_31 rfl 0 rfl ?_
      refine p_lay (c := 10) (tq := 101) (n := 4) dX10_exactSum_32 13 23 tb_240 (by decide) (by decide) h0 (by decide) (by decide) (fun _ => rfl) (vr 101 (a0 + 23) 4) rfl ?_
      refine p_iload dX10_exactSum_35 3 rfl ?_
      obtain ⟨c6, hf⟩ := hf
      refine p_lald dX10_exactSum_37 (nnk h0 (by decide)) c6 ?_
      refine p_ladd dX10_exactSum_38 ?_
      refine p_lstore_n (ls' := [(2, vl (w64 (v2 + (h (a0 + 23) v4)))), (0, vr 10 a0 0), (1, vr 0 v1 0), (4, vi v4)]) dX10_exactSum_39 rfl (by decide) rfl ?_
      replace hf := vb_e hf
      generalize (w64 (v2 + (h (a0 + 23) v4))) = z7 at hf ⊢
      refine p_iinc (ls' := [(4, vi (w32 (v4 + 1))), (2, vl z7), (0, vr 10 a0 0), (1, vr 0 v1 0)]) dX10_exactSum_40 3 rfl (by decide) rfl ?_
      replace hf := vb_e hf
      generalize w32 (v4 + 1) = z8 at hf ⊢
      refine p_goto (tgt := 21) dX10_exactSum_43 (by decide) ?_
      refine p_sub (ls' := [(0, vr 10 a0 0), (1, vr 0 v1 0), (2, vl z7), (4, vi z8)]) [2, 3, 1, 0] rfl ?_
      exact ih _ _ _ _ hf
def w_X10_exactSum (a0 x1 : Int) (h : Hh) (K : Int → Hh → Prop) : Prop := w_X10_layAsCut a0 x1 (h a0 10) h (fun _ h1 => 0 ≤ x1 ∧ (0 ≤ h1 x1 0 ∧ (vb (h1 (h1 x1 0) 1) fun z4 => w_X10_exactSum_21 K  a0 NF x1 z4 0 h1)))
set_option maxRecDepth 100000 in
set_option maxHeartbeats 4000000 in
theorem t_X10_exactSum {G : Gx} (a0 x1 : Int) (h : Hh) (K : Int → Hh → Prop) (h0 : 0 ≤ a0) (hf : w_X10_exactSum a0 x1 h K) : CT G M_X10_exactSum rm_X10_exactSum 0 0 [] [vr 10 a0 0, vr 0 x1 0] h K := by
  unfold w_X10_exactSum at hf
  refine CT.of (ls0 := [(0, vr 10 a0 0), (1, vr 0 x1 0)]) (plainFor_of_name (by decide +kernel)) (by decide +kernel) (Nat.le_of_ble_eq_true rfl) rfl rfl ?_
  refine p_aload_n dX10_exactSum_0 rfl 0 rfl ?_
  refine p_aload_n dX10_exactSum_1 rfl 1 rfl ?_
  refine p_aload_n dX10_exactSum_2 rfl 0 rfl ?_
  refine p_get (c := 10) (vi (h a0 10)) dX10_exactSum_3 10 tb_237 (by decide) (by decide) (Or.inl rfl) h0 rfl rfl ?_
  refine p_callVv dX10_exactSum_6 M_X10_layAsCut rfl [vr 0 x1 0, vi (h a0 10)] (t_X10_layAsCut _ _ _ _ _ h0 hf) ok_X10_layAsCut rfl (c := 10) (by decide) h0 rfl tb_648 ⟨tb_650, ts_43⟩ rfl (Nat.le_of_ble_eq_true rfl) ⟨rfl, rfl⟩ ⟨by decide, by decide⟩ ⟨by decide, by decide⟩ (fun _ h1 hf => ?_)
  refine p_aload_n dX10_exactSum_9 rfl 1 rfl ?_
  obtain ⟨c2, hf⟩ := hf
  refine p_getN (c := 0) (vr 7 (h1 x1 0) 0) dX10_exactSum_10 0 tb_491 (by decide) (by decide) (Or.inl rfl) c2 rfl rfl ?_
  obtain ⟨c3, hf⟩ := hf
  refine p_getN (c := 7) (vi (h1 (h1 x1 0) 1)) dX10_exactSum_13 1 tb_357 (by decide) (by decide) (Or.inl rfl) c3 rfl rfl ?_
  refine p_i2l dX10_exactSum_16 ?_
  refine p_lstore_n (ls' := [(2, vl (h1 (h1 x1 0) 1)), (0, vr 10 a0 0), (1, vr 0 x1 0)]) dX10_exactSum_17 rfl (by decide) rfl ?_
  replace hf := vb_e hf
  generalize (h1 (h1 x1 0) 1) = z4 at hf ⊢
  refine p_iconst dX10_exactSum_18 (by decide) ?_
  refine p_istore (ls' := [(4, vi 0), (2, vl z4), (0, vr 10 a0 0), (1, vr 0 x1 0)]) dX10_exactSum_19 (by decide) rfl ?_
  refine p_sub (ls' := [(0, vr 10 a0 0), (1, vr 0 x1 0), (2, vl z4), (4, vi 0)]) [2, 3, 1, 0] rfl ?_
  refine t_X10_exactSum_21 h0  NF _ _ _ _ hf
theorem ok_X10_exactSum : mOK M_X10_exactSum 1 := ⟨tb_647, tb_1, by decide +kernel⟩
abbrev M_X10_read : MD := (yX10_read, cX10_read, 4, some .int)
abbrev rm_X10_read : Room := { frames := 5, cells := 0, slots := 0, locals := 122 }
def w_X10_read_21 (K : Int → Hh → Prop) (a0 : Int) (h : Hh) : Prop := K (-2147483648) h
set_option maxRecDepth 100000 in
set_option maxHeartbeats 4000000 in
theorem t_X10_read_21 {G : Gx} {n0 : Int} {K : Int → Hh → Prop} {a0 : Int} (h0 : 0 ≤ a0)  (h : Hh) (hf : w_X10_read_21 K  a0  h) : PW G M_X10_read rm_X10_read 0 0 [] n0 K 21 [] [] [] 0 0 h := by
  unfold w_X10_read_21 at hf
  refine p_ldc (z := (-2147483648)) dX10_read_21 tb_389 (by decide) ?_
  exact p_iret dX10_read_23 rfl (by decide) (by decide) (fun _ h => absurd h List.not_mem_nil) hf
def w_X10_read (a0 x1 x2 : Int) (h : Hh) (K : Int → Hh → Prop) : Prop := if h a0 9 = -1 then (w_X10_read_21 K  a0  h) else (if x1 < 0 then (w_X10_read_21 K  a0  h) else (if x1 ≤ h a0 8 then (if x2 ≠ 0 then (if x2 ≠ 1 then (if x2 ≠ 2 then (K (-2147483648) h) else (w_X10_exactSum a0 (h a0 9) h (fun r1 h2 => K r1 h2))) else (0 ≤ h a0 9 ∧ (w_X10_readAsKnown a0 (h a0 9) (h a0 10) x1 h (fun r4 h5 => 0 ≤ h (h a0 9) 0 ∧ (w_X7_tenthsOf (h (h a0 9) 0) r4 h5 (fun r7 h8 => K r7 h8)))))) else (w_X10_readAsKnown a0 (h a0 9) (h a0 10) x1 h (fun r9 h10 => K (w32 r9) h10))) else (w_X10_read_21 K  a0  h)))
set_option maxRecDepth 100000 in
set_option maxHeartbeats 4000000 in
theorem t_X10_read {G : Gx} (a0 x1 x2 : Int) (h : Hh) (K : Int → Hh → Prop) (h0 : 0 ≤ a0) (hf : w_X10_read a0 x1 x2 h K) : CT G M_X10_read rm_X10_read 0 0 [] [vr 10 a0 0, vi x1, vi x2] h K := by
  unfold w_X10_read at hf
  refine CT.of (ls0 := [(0, vr 10 a0 0), (1, vi x1), (2, vi x2)]) (plainFor_of_name (by decide +kernel)) (by decide +kernel) (Nat.le_of_ble_eq_true rfl) rfl rfl ?_
  refine p_aload_n dX10_read_0 rfl 0 rfl ?_
  refine p_get (c := 10) (vr 0 (h a0 9) 0) dX10_read_1 9 tb_236 (by decide) (by decide) (Or.inl rfl) h0 rfl rfl ?_
  refine p_astore_n (ls' := [(3, vr 0 (h a0 9) 0), (0, vr 10 a0 0), (1, vi x1), (2, vi x2)]) dX10_read_4 rfl (by decide) rfl ?_
  refine p_aload_n dX10_read_5 rfl 0 rfl ?_
  refine p_ifnull (tgt := 21) dX10_read_6 (by decide) (by decide) (fun hc => ?_) (fun hc => ?_)
  · replace hf := Eq.mp (if_pos hc) hf
    refine p_sub (ls' := []) [] rfl ?_
    exact t_X10_read_21 h0   _ hf
  · replace hf := Eq.mp (if_neg hc) hf
    refine p_iload_n dX10_read_9 rfl 2 rfl ?_
    refine p_if_lt (tgt := 21) (q := x1 < 0) dX10_read_10 (by decide) Iff.rfl (fun hc => ?_) (fun hc => ?_)
    · replace hf := Eq.mp (if_pos hc) hf
      refine p_sub (ls' := []) [] rfl ?_
      exact t_X10_read_21 h0   _ hf
    · replace hf := Eq.mp (if_neg hc) hf
      refine p_iload_n dX10_read_13 rfl 2 rfl ?_
      refine p_aload_n dX10_read_14 rfl 1 rfl ?_
      refine p_get (c := 10) (vi (h a0 8)) dX10_read_15 8 tb_235 (by decide) (by decide) (Or.inl rfl) h0 rfl rfl ?_
      refine p_icmp_le (tgt := 24) (q := x1 ≤ h a0 8) dX10_read_18 (by decide) Iff.rfl (fun hc => ?_) (fun hc => ?_)
      · replace hf := Eq.mp (if_pos hc) hf
        refine p_iload_n dX10_read_24 rfl 3 rfl ?_
        refine p_if_ne (tgt := 40) (q := x2 ≠ 0) dX10_read_25 (by decide) Iff.rfl (fun hc => ?_) (fun hc => ?_)
        · replace hf := Eq.mp (if_pos hc) hf
          refine p_iload_n dX10_read_40 rfl 3 rfl ?_
          refine p_iconst dX10_read_41 (by decide) ?_
          refine p_icmp_ne (tgt := 63) (q := x2 ≠ 1) dX10_read_42 (by decide) Iff.rfl (fun hc => ?_) (fun hc => ?_)
          · replace hf := Eq.mp (if_pos hc) hf
            refine p_iload_n dX10_read_63 rfl 3 rfl ?_
            refine p_iconst dX10_read_64 (by decide) ?_
            refine p_icmp_ne (tgt := 74) (q := x2 ≠ 2) dX10_read_65 (by decide) Iff.rfl (fun hc => ?_) (fun hc => ?_)
            · replace hf := Eq.mp (if_pos hc) hf
              refine p_ldc (z := (-2147483648)) dX10_read_74 tb_389 (by decide) ?_
              exact p_iret dX10_read_76 rfl (by decide) (by decide) (fun _ h => absurd h List.not_mem_nil) hf
            · replace hf := Eq.mp (if_neg hc) hf
              refine p_aload_n dX10_read_68 rfl 1 rfl ?_
              refine p_aload_n dX10_read_69 rfl 0 rfl ?_
              refine p_callVi dX10_read_70 M_X10_exactSum (Or.inl rfl) [vr 0 (h a0 9) 0] (t_X10_exactSum _ _ _ _ h0 hf) ok_X10_exactSum rfl (c := 10) (by decide) h0 rfl tb_644 ⟨tb_646, ts_42⟩ rfl (Nat.le_of_ble_eq_true rfl) ⟨rfl, rfl⟩ ⟨by decide, by decide⟩ ⟨by decide, by decide⟩ (fun r1 h2 hf => ?_)
              exact p_iret dX10_read_73 rfl (by decide) (by decide) (fun _ h => absurd h List.not_mem_nil) hf
          · replace hf := Eq.mp (if_neg hc) hf
            refine p_aload_n dX10_read_45 rfl 0 rfl ?_
            obtain ⟨c3, hf⟩ := hf
            refine p_getN (c := 0) (vr 7 (h (h a0 9) 0) 0) dX10_read_46 0 tb_491 (by decide) (by decide) (Or.inl rfl) c3 rfl rfl ?_
            refine p_aload_n dX10_read_49 rfl 1 rfl ?_
            refine p_aload_n dX10_read_50 rfl 0 rfl ?_
            refine p_aload_n dX10_read_51 rfl 1 rfl ?_
            refine p_get (c := 10) (vi (h a0 10)) dX10_read_52 10 tb_237 (by decide) (by decide) (Or.inl rfl) h0 rfl rfl ?_
            refine p_iload_n dX10_read_55 rfl 2 rfl ?_
            refine p_callVl dX10_read_56 M_X10_readAsKnown rfl [vr 0 (h a0 9) 0, vi (h a0 10), vi x1] (t_X10_readAsKnown _ _ _ _ _ _ h0 hf) ok_X10_readAsKnown rfl (c := 10) (by decide) h0 rfl tb_588 ⟨tb_590, ts_31⟩ rfl (Nat.le_of_ble_eq_true rfl) ⟨rfl, rfl⟩ ⟨by decide, by decide⟩ ⟨by decide, by decide⟩ (fun r4 h5 hf => ?_)
            obtain ⟨c6, hf⟩ := hf
            refine p_callVNi dX10_read_59 M_X7_tenthsOf (Or.inl rfl) [vl r4] (t_X7_tenthsOf _ _ _ _ c6 hf) ok_X7_tenthsOf rfl (c := 7) (by decide) c6 rfl tb_639 ⟨tb_641, ts_41⟩ rfl (Nat.le_of_ble_eq_true rfl) ⟨rfl, rfl⟩ ⟨by decide, by decide⟩ ⟨by decide, by decide⟩ (fun r7 h8 hf => ?_)
            exact p_iret dX10_read_62 rfl (by decide) (by decide) (fun _ h => absurd h List.not_mem_nil) hf
        · replace hf := Eq.mp (if_neg hc) hf
          refine p_aload_n dX10_read_28 rfl 1 rfl ?_
          refine p_aload_n dX10_read_29 rfl 0 rfl ?_
          refine p_aload_n dX10_read_30 rfl 1 rfl ?_
          refine p_get (c := 10) (vi (h a0 10)) dX10_read_31 10 tb_237 (by decide) (by decide) (Or.inl rfl) h0 rfl rfl ?_
          refine p_iload_n dX10_read_34 rfl 2 rfl ?_
          refine p_callVl dX10_read_35 M_X10_readAsKnown rfl [vr 0 (h a0 9) 0, vi (h a0 10), vi x1] (t_X10_readAsKnown _ _ _ _ _ _ h0 hf) ok_X10_readAsKnown rfl (c := 10) (by decide) h0 rfl tb_588 ⟨tb_590, ts_31⟩ rfl (Nat.le_of_ble_eq_true rfl) ⟨rfl, rfl⟩ ⟨by decide, by decide⟩ ⟨by decide, by decide⟩ (fun r9 h10 hf => ?_)
          refine p_l2i dX10_read_38 ?_
          exact p_iret dX10_read_39 rfl (by decide) (by decide) (fun _ h => absurd h List.not_mem_nil) hf
      · replace hf := Eq.mp (if_neg hc) hf
        refine p_sub (ls' := []) [] rfl ?_
        exact t_X10_read_21 h0   _ hf
theorem ok_X10_read : mOK M_X10_read 2 := ⟨tb_587, tb_1, by decide +kernel⟩
abbrev M_X10_lead : MD := (yX10_lead, cX10_lead, 4, some .int)
abbrev rm_X10_lead : Room := { frames := 4, cells := 0, slots := 0, locals := 99 }
def w_X10_lead_17 (K : Int → Hh → Prop) (a0 : Int) (h : Hh) : Prop := K (-2147483648) h
set_option maxRecDepth 100000 in
set_option maxHeartbeats 4000000 in
theorem t_X10_lead_17 {G : Gx} {n0 : Int} {K : Int → Hh → Prop} {a0 : Int} (h0 : 0 ≤ a0)  (h : Hh) (hf : w_X10_lead_17 K  a0  h) : PW G M_X10_lead rm_X10_lead 0 0 [] n0 K 17 [] [] [] 0 0 h := by
  unfold w_X10_lead_17 at hf
  refine p_ldc (z := (-2147483648)) dX10_lead_17 tb_389 (by decide) ?_
  exact p_iret dX10_lead_19 rfl (by decide) (by decide) (fun _ h => absurd h List.not_mem_nil) hf
def w_X10_lead (a0 x1 x2 : Int) (h : Hh) (K : Int → Hh → Prop) : Prop := if h a0 9 = -1 then (w_X10_lead_17 K  a0  h) else (0 ≤ h a0 9 ∧ (w_X0_hasPage (h a0 9) x1 h (fun r2 h3 => if r2 ≠ 0 then (w_X10_layAsKnown a0 (h a0 9) (h3 a0 10) (h3 a0 8) h3 (fun _ h4 => w_X9_along (a0 + 24) (h a0 9) (a0 + 23) 4 x1 h4 (fun _ h5 => if x2 = 0 then (K (w32 (h5 (a0 + 24) 0)) h5) else (if x2 = 1 then (K (w32 (h5 (a0 + 24) 1)) h5) else (if x2 = 2 then (K (w32 (h5 (a0 + 24) 2)) h5) else (if x2 = 3 then (K (w32 (h5 (a0 + 24) 3)) h5) else (K (-2147483648) h5))))))) else (w_X10_lead_17 K  a0  h3))))
set_option maxRecDepth 100000 in
set_option maxHeartbeats 4000000 in
theorem t_X10_lead {G : Gx} (a0 x1 x2 : Int) (h : Hh) (K : Int → Hh → Prop) (h0 : 0 ≤ a0) (hf : w_X10_lead a0 x1 x2 h K) : CT G M_X10_lead rm_X10_lead 0 0 [] [vr 10 a0 0, vi x1, vi x2] h K := by
  unfold w_X10_lead at hf
  refine CT.of (ls0 := [(0, vr 10 a0 0), (1, vi x1), (2, vi x2)]) (plainFor_of_name (by decide +kernel)) (by decide +kernel) (Nat.le_of_ble_eq_true rfl) rfl rfl ?_
  refine p_aload_n dX10_lead_0 rfl 0 rfl ?_
  refine p_get (c := 10) (vr 0 (h a0 9) 0) dX10_lead_1 9 tb_236 (by decide) (by decide) (Or.inl rfl) h0 rfl rfl ?_
  refine p_astore_n (ls' := [(3, vr 0 (h a0 9) 0), (0, vr 10 a0 0), (1, vi x1), (2, vi x2)]) dX10_lead_4 rfl (by decide) rfl ?_
  refine p_aload_n dX10_lead_5 rfl 0 rfl ?_
  refine p_ifnull (tgt := 17) dX10_lead_6 (by decide) (by decide) (fun hc => ?_) (fun hc => ?_)
  · replace hf := Eq.mp (if_pos hc) hf
    refine p_sub (ls' := []) [] rfl ?_
    exact t_X10_lead_17 h0   _ hf
  · replace hf := Eq.mp (if_neg hc) hf
    refine p_aload_n dX10_lead_9 rfl 0 rfl ?_
    refine p_iload_n dX10_lead_10 rfl 2 rfl ?_
    obtain ⟨c1, hf⟩ := hf
    refine p_callVNi dX10_lead_11 M_X0_hasPage (Or.inr rfl) [vi x1] (t_X0_hasPage _ _ _ _ c1 hf) ok_X0_hasPage rfl (c := 0) (by decide) c1 rfl tb_656 ⟨tb_569, ts_28⟩ rfl (Nat.le_of_ble_eq_true rfl) ⟨rfl, rfl⟩ ⟨by decide, by decide⟩ ⟨by decide, by decide⟩ (fun r2 h3 hf => ?_)
    refine p_if_ne (tgt := 20) (q := r2 ≠ 0) dX10_lead_14 (by decide) Iff.rfl (fun hc => ?_) (fun hc => ?_)
    · replace hf := Eq.mp (if_pos hc) hf
      refine p_aload_n dX10_lead_20 rfl 1 rfl ?_
      refine p_aload_n dX10_lead_21 rfl 0 rfl ?_
      refine p_aload_n dX10_lead_22 rfl 1 rfl ?_
      refine p_get (c := 10) (vi (h3 a0 10)) dX10_lead_23 10 tb_237 (by decide) (by decide) (Or.inl rfl) h0 rfl rfl ?_
      refine p_aload_n dX10_lead_26 rfl 1 rfl ?_
      refine p_get (c := 10) (vi (h3 a0 8)) dX10_lead_27 8 tb_235 (by decide) (by decide) (Or.inl rfl) h0 rfl rfl ?_
      refine p_callVv dX10_lead_30 M_X10_layAsKnown rfl [vr 0 (h a0 9) 0, vi (h3 a0 10), vi (h3 a0 8)] (t_X10_layAsKnown _ _ _ _ _ _ h0 hf) ok_X10_layAsKnown rfl (c := 10) (by decide) h0 rfl tb_592 ⟨tb_594, ts_32⟩ rfl (Nat.le_of_ble_eq_true rfl) ⟨rfl, rfl⟩ ⟨by decide, by decide⟩ ⟨by decide, by decide⟩ (fun _ h4 hf => ?_)
      refine p_aload_n dX10_lead_33 rfl 1 rfl ?_
      refine p_lay (c := 10) (tq := 9) (n := 0) dX10_lead_34 14 24 tb_241 (by decide) (by decide) h0 (by decide) (by decide) (fun _ => rfl) (vr 9 (a0 + 24) 0) rfl ?_
      refine p_aload_n dX10_lead_37 rfl 0 rfl ?_
      refine p_aload_n dX10_lead_38 rfl 1 rfl ?_
      refine p_lay (c := 10) (tq := 101) (n := 4) dX10_lead_39 13 23 tb_240 (by decide) (by decide) h0 (by decide) (by decide) (fun _ => rfl) (vr 101 (a0 + 23) 4) rfl ?_
      refine p_iload_n dX10_lead_42 rfl 2 rfl ?_
      refine p_callVNv dX10_lead_43 M_X9_along rfl [vr 0 (h a0 9) 0, vr 101 (a0 + 23) 4, vi x1] (t_X9_along _ _ _ _ _ _ _ (nnk h0 (by decide)) hf) ok_X9_along rfl (c := 9) (by decide) (nnk h0 (by decide)) rfl tb_606 ⟨tb_608, ts_35⟩ rfl (Nat.le_of_ble_eq_true rfl) ⟨rfl, rfl⟩ ⟨by decide, by decide⟩ ⟨by decide, by decide⟩ (fun _ h5 hf => ?_)
      refine p_iload_n dX10_lead_46 rfl 3 rfl ?_
      by_cases hc : x2 = 0
      · replace hf := Eq.mp (if_pos hc) hf
        refine p_tsIn (tgt := 76) (off := 29) dX10_lead_47 (by omega) (by omega) (by rw [hc]; rfl) (by decide) ?_
        refine p_aload_n dX10_lead_76 rfl 1 rfl ?_
        refine p_lay (c := 10) (tq := 9) (n := 0) dX10_lead_77 14 24 tb_241 (by decide) (by decide) h0 (by decide) (by decide) (fun _ => rfl) (vr 9 (a0 + 24) 0) rfl ?_
        refine p_getN (c := 9) (vl (h5 (a0 + 24) 0)) dX10_lead_80 0 tb_153 (by decide) (by decide) (Or.inl rfl) (nnk h0 (by decide)) rfl rfl ?_
        refine p_l2i dX10_lead_83 ?_
        exact p_iret dX10_lead_84 rfl (by decide) (by decide) (fun _ h => absurd h List.not_mem_nil) hf
      replace hf := Eq.mp (if_neg hc) hf
      have hc47_0 := hc
      clear hc
      by_cases hc : x2 = 1
      · replace hf := Eq.mp (if_pos hc) hf
        refine p_tsIn (tgt := 85) (off := 38) dX10_lead_47 (by omega) (by omega) (by rw [hc]; rfl) (by decide) ?_
        refine p_aload_n dX10_lead_85 rfl 1 rfl ?_
        refine p_lay (c := 10) (tq := 9) (n := 0) dX10_lead_86 14 24 tb_241 (by decide) (by decide) h0 (by decide) (by decide) (fun _ => rfl) (vr 9 (a0 + 24) 0) rfl ?_
        refine p_getN (c := 9) (vl (h5 (a0 + 24) 1)) dX10_lead_89 1 tb_155 (by decide) (by decide) (Or.inl rfl) (nnk h0 (by decide)) rfl rfl ?_
        refine p_l2i dX10_lead_92 ?_
        exact p_iret dX10_lead_93 rfl (by decide) (by decide) (fun _ h => absurd h List.not_mem_nil) hf
      replace hf := Eq.mp (if_neg hc) hf
      have hc47_1 := hc
      clear hc
      by_cases hc : x2 = 2
      · replace hf := Eq.mp (if_pos hc) hf
        refine p_tsIn (tgt := 94) (off := 47) dX10_lead_47 (by omega) (by omega) (by rw [hc]; rfl) (by decide) ?_
        refine p_aload_n dX10_lead_94 rfl 1 rfl ?_
        refine p_lay (c := 10) (tq := 9) (n := 0) dX10_lead_95 14 24 tb_241 (by decide) (by decide) h0 (by decide) (by decide) (fun _ => rfl) (vr 9 (a0 + 24) 0) rfl ?_
        refine p_getN (c := 9) (vl (h5 (a0 + 24) 2)) dX10_lead_98 2 tb_157 (by decide) (by decide) (Or.inl rfl) (nnk h0 (by decide)) rfl rfl ?_
        refine p_l2i dX10_lead_101 ?_
        exact p_iret dX10_lead_102 rfl (by decide) (by decide) (fun _ h => absurd h List.not_mem_nil) hf
      replace hf := Eq.mp (if_neg hc) hf
      have hc47_2 := hc
      clear hc
      by_cases hc : x2 = 3
      · replace hf := Eq.mp (if_pos hc) hf
        refine p_tsIn (tgt := 103) (off := 56) dX10_lead_47 (by omega) (by omega) (by rw [hc]; rfl) (by decide) ?_
        refine p_aload_n dX10_lead_103 rfl 1 rfl ?_
        refine p_lay (c := 10) (tq := 9) (n := 0) dX10_lead_104 14 24 tb_241 (by decide) (by decide) h0 (by decide) (by decide) (fun _ => rfl) (vr 9 (a0 + 24) 0) rfl ?_
        refine p_getN (c := 9) (vl (h5 (a0 + 24) 3)) dX10_lead_107 3 tb_159 (by decide) (by decide) (Or.inl rfl) (nnk h0 (by decide)) rfl rfl ?_
        refine p_l2i dX10_lead_110 ?_
        exact p_iret dX10_lead_111 rfl (by decide) (by decide) (fun _ h => absurd h List.not_mem_nil) hf
      replace hf := Eq.mp (if_neg hc) hf
      have hc47_3 := hc
      clear hc
      refine p_tsOut (tgt := 112) dX10_lead_47 (by omega) (by decide) ?_
      refine p_ldc (z := (-2147483648)) dX10_lead_112 tb_389 (by decide) ?_
      exact p_iret dX10_lead_114 rfl (by decide) (by decide) (fun _ h => absurd h List.not_mem_nil) hf
    · replace hf := Eq.mp (if_neg hc) hf
      refine p_sub (ls' := []) [] rfl ?_
      exact t_X10_lead_17 h0   _ hf
theorem ok_X10_lead : mOK M_X10_lead 2 := ⟨tb_655, tb_1, by decide +kernel⟩
abbrev M_X10_isEye : MD := (yX10_isEye, cX10_isEye, 1, some .boolean)
abbrev rm_X10_isEye : Room := { frames := 0, cells := 0, slots := 0, locals := 0 }
def w_X10_isEye_15 (K : Int → Hh → Prop) (s0 : Int) (h : Hh) : Prop := (s0 = 0 ∨ s0 = 1) ∧ (K s0 h)
set_option maxRecDepth 100000 in
set_option maxHeartbeats 4000000 in
theorem t_X10_isEye_15 {G : Gx} {n0 : Int} {K : Int → Hh → Prop}  (s0 : Int) (h : Hh) (hf : w_X10_isEye_15 K   s0 h) : PW G M_X10_isEye rm_X10_isEye 0 0 [] n0 K 15 [] [vi s0] [] 0 0 h := by
  unfold w_X10_isEye_15 at hf
  obtain ⟨c1, hf⟩ := hf
  exact p_zret dX10_isEye_15 rfl (by decide) (by decide) (fun _ h => absurd h List.not_mem_nil) c1 hf
def w_X10_isEye_14 (K : Int → Hh → Prop) (h : Hh) : Prop := w_X10_isEye_15 K   0 h
set_option maxRecDepth 100000 in
set_option maxHeartbeats 4000000 in
theorem t_X10_isEye_14 {G : Gx} {n0 : Int} {K : Int → Hh → Prop}  (h : Hh) (hf : w_X10_isEye_14 K    h) : PW G M_X10_isEye rm_X10_isEye 0 0 [] n0 K 14 [] [] [] 0 0 h := by
  unfold w_X10_isEye_14 at hf
  refine p_iconst dX10_isEye_14 (by decide) ?_
  exact t_X10_isEye_15  _ _ hf
def w_X10_isEye (x0 : Int) (h : Hh) (K : Int → Hh → Prop) : Prop := if x0 < 0 then (w_X10_isEye_14 K    h) else (if x0 > 50 then (w_X10_isEye_14 K    h) else (w_X10_isEye_15 K   1 h))
set_option maxRecDepth 100000 in
set_option maxHeartbeats 4000000 in
theorem t_X10_isEye {G : Gx} (x0 : Int) (h : Hh) (K : Int → Hh → Prop) (hf : w_X10_isEye x0 h K) : CT G M_X10_isEye rm_X10_isEye 0 0 [] [vi x0] h K := by
  unfold w_X10_isEye at hf
  refine CT.of (ls0 := [(0, vi x0)]) (plainFor_of_name (by decide +kernel)) (by decide +kernel) (Nat.le_of_ble_eq_true rfl) rfl rfl ?_
  refine p_iload_n dX10_isEye_0 rfl 0 rfl ?_
  refine p_if_lt (tgt := 14) (q := x0 < 0) dX10_isEye_1 (by decide) Iff.rfl (fun hc => ?_) (fun hc => ?_)
  · replace hf := Eq.mp (if_pos hc) hf
    refine p_sub (ls' := []) [] rfl ?_
    exact t_X10_isEye_14   _ hf
  · replace hf := Eq.mp (if_neg hc) hf
    refine p_iload_n dX10_isEye_4 rfl 0 rfl ?_
    refine p_bipush dX10_isEye_5 (by decide) (by decide) ?_
    refine p_icmp_gt (tgt := 14) (q := x0 > 50) dX10_isEye_7 (by decide) Iff.rfl (fun hc => ?_) (fun hc => ?_)
    · replace hf := Eq.mp (if_pos hc) hf
      refine p_sub (ls' := []) [] rfl ?_
      exact t_X10_isEye_14   _ hf
    · replace hf := Eq.mp (if_neg hc) hf
      refine p_iconst dX10_isEye_10 (by decide) ?_
      refine p_goto (tgt := 15) dX10_isEye_11 (by decide) ?_
      refine p_sub (ls' := []) [] rfl ?_
      exact t_X10_isEye_15  _ _ hf
theorem ok_X10_isEye : mOK M_X10_isEye 1 := ⟨tb_663, tb_1, by decide +kernel⟩
