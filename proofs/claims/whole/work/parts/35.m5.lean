abbrev M_X10_feed : MD := (yX10_feed, cX10_feed, 6, some .int)
abbrev rm_X10_feed : Room := { frames := 1, cells := 0, slots := 0, locals := 22 }
def w_X10_feed (a0 x1 x2 x3 x4 x5 : Int) (h : Hh) (K : Int → Hh → Prop) : Prop := if w32 ((h (a0 + 1) 1) + 20) ≤ 120 then (w_X8_add (a0 + 1) x1 h (fun _ h1 => w_X8_add (a0 + 1) x2 h1 (fun _ h2 => w_X8_add (a0 + 1) x3 h2 (fun _ h3 => w_X8_add (a0 + 1) x4 h3 (fun _ h4 => w_X8_add (a0 + 1) x5 h4 (fun _ h5 => K (h5 (a0 + 1) 1) h5)))))) else (K (-1) h)
set_option maxRecDepth 100000 in
set_option maxHeartbeats 4000000 in
theorem t_X10_feed {G : Gx} (a0 x1 x2 x3 x4 x5 : Int) (h : Hh) (K : Int → Hh → Prop) (h0 : 0 ≤ a0) (hf : w_X10_feed a0 x1 x2 x3 x4 x5 h K) : CT G M_X10_feed rm_X10_feed 0 0 [] [vr 10 a0 0, vi x1, vi x2, vi x3, vi x4, vi x5] h K := by
  unfold w_X10_feed at hf
  refine CT.of (ls0 := [(0, vr 10 a0 0), (1, vi x1), (2, vi x2), (3, vi x3), (4, vi x4), (5, vi x5)]) (plainFor_of_name (by decide +kernel)) (by decide +kernel) (Nat.le_of_ble_eq_true rfl) rfl rfl ?_
  refine p_aload_n dX10_feed_0 rfl 0 rfl ?_
  refine p_lay (c := 10) (tq := 8) (n := 0) dX10_feed_1 0 1 tb_227 (by decide) (by decide) h0 (by decide) (by decide) (fun _ => rfl) (vr 8 (a0 + 1) 0) rfl ?_
  refine p_getN (c := 8) (vi (h (a0 + 1) 1)) dX10_feed_4 1 tb_31 (by decide) (by decide) (Or.inl rfl) (by omega) rfl rfl ?_
  refine p_bipush dX10_feed_7 (by decide) (by decide) ?_
  refine p_iadd dX10_feed_9 ?_
  refine p_bipush dX10_feed_10 (by decide) (by decide) ?_
  refine p_icmp_le (tgt := 17) (q := w32 ((h (a0 + 1) 1) + 20) ≤ 120) dX10_feed_12 (by decide) Iff.rfl (fun hc => ?_) (fun hc => ?_)
  · replace hf := Eq.mp (if_pos hc) hf
    refine p_aload_n dX10_feed_17 rfl 0 rfl ?_
    refine p_lay (c := 10) (tq := 8) (n := 0) dX10_feed_18 0 1 tb_227 (by decide) (by decide) h0 (by decide) (by decide) (fun _ => rfl) (vr 8 (a0 + 1) 0) rfl ?_
    refine p_iload_n dX10_feed_21 rfl 1 rfl ?_
    refine p_callVNv dX10_feed_22 M_X8_add rfl [vi x1] (t_X8_add _ _ _ _ (by omega) hf) ok_X8_add rfl (c := 8) (by decide) (by omega) rfl tb_283 ⟨tb_285, ts_0⟩ rfl (Nat.le_of_ble_eq_true rfl) ⟨rfl, rfl⟩ ⟨by decide, by decide⟩ ⟨by decide, by decide⟩ (fun _ h1 hf => ?_)
    refine p_aload_n dX10_feed_25 rfl 0 rfl ?_
    refine p_lay (c := 10) (tq := 8) (n := 0) dX10_feed_26 0 1 tb_227 (by decide) (by decide) h0 (by decide) (by decide) (fun _ => rfl) (vr 8 (a0 + 1) 0) rfl ?_
    refine p_iload_n dX10_feed_29 rfl 2 rfl ?_
    refine p_callVNv dX10_feed_30 M_X8_add rfl [vi x2] (t_X8_add _ _ _ _ (by omega) hf) ok_X8_add rfl (c := 8) (by decide) (by omega) rfl tb_283 ⟨tb_285, ts_0⟩ rfl (Nat.le_of_ble_eq_true rfl) ⟨rfl, rfl⟩ ⟨by decide, by decide⟩ ⟨by decide, by decide⟩ (fun _ h2 hf => ?_)
    refine p_aload_n dX10_feed_33 rfl 0 rfl ?_
    refine p_lay (c := 10) (tq := 8) (n := 0) dX10_feed_34 0 1 tb_227 (by decide) (by decide) h0 (by decide) (by decide) (fun _ => rfl) (vr 8 (a0 + 1) 0) rfl ?_
    refine p_iload_n dX10_feed_37 rfl 3 rfl ?_
    refine p_callVNv dX10_feed_38 M_X8_add rfl [vi x3] (t_X8_add _ _ _ _ (by omega) hf) ok_X8_add rfl (c := 8) (by decide) (by omega) rfl tb_283 ⟨tb_285, ts_0⟩ rfl (Nat.le_of_ble_eq_true rfl) ⟨rfl, rfl⟩ ⟨by decide, by decide⟩ ⟨by decide, by decide⟩ (fun _ h3 hf => ?_)
    refine p_aload_n dX10_feed_41 rfl 0 rfl ?_
    refine p_lay (c := 10) (tq := 8) (n := 0) dX10_feed_42 0 1 tb_227 (by decide) (by decide) h0 (by decide) (by decide) (fun _ => rfl) (vr 8 (a0 + 1) 0) rfl ?_
    refine p_iload dX10_feed_45 4 rfl ?_
    refine p_callVNv dX10_feed_47 M_X8_add rfl [vi x4] (t_X8_add _ _ _ _ (by omega) hf) ok_X8_add rfl (c := 8) (by decide) (by omega) rfl tb_283 ⟨tb_285, ts_0⟩ rfl (Nat.le_of_ble_eq_true rfl) ⟨rfl, rfl⟩ ⟨by decide, by decide⟩ ⟨by decide, by decide⟩ (fun _ h4 hf => ?_)
    refine p_aload_n dX10_feed_50 rfl 0 rfl ?_
    refine p_lay (c := 10) (tq := 8) (n := 0) dX10_feed_51 0 1 tb_227 (by decide) (by decide) h0 (by decide) (by decide) (fun _ => rfl) (vr 8 (a0 + 1) 0) rfl ?_
    refine p_iload dX10_feed_54 5 rfl ?_
    refine p_callVNv dX10_feed_56 M_X8_add rfl [vi x5] (t_X8_add _ _ _ _ (by omega) hf) ok_X8_add rfl (c := 8) (by decide) (by omega) rfl tb_283 ⟨tb_285, ts_0⟩ rfl (Nat.le_of_ble_eq_true rfl) ⟨rfl, rfl⟩ ⟨by decide, by decide⟩ ⟨by decide, by decide⟩ (fun _ h5 hf => ?_)
    refine p_aload_n dX10_feed_59 rfl 0 rfl ?_
    refine p_lay (c := 10) (tq := 8) (n := 0) dX10_feed_60 0 1 tb_227 (by decide) (by decide) h0 (by decide) (by decide) (fun _ => rfl) (vr 8 (a0 + 1) 0) rfl ?_
    refine p_getN (c := 8) (vi (h5 (a0 + 1) 1)) dX10_feed_63 1 tb_31 (by decide) (by decide) (Or.inl rfl) (by omega) rfl rfl ?_
    exact p_iret dX10_feed_66 rfl (by decide) (by decide) (fun _ q => absurd q List.not_mem_nil) hf
  · replace hf := Eq.mp (if_neg hc) hf
    refine p_iconst dX10_feed_15 (by decide) ?_
    exact p_iret dX10_feed_16 rfl (by decide) (by decide) (fun _ q => absurd q List.not_mem_nil) hf
theorem ok_X10_feed : mOK M_X10_feed 5 := ⟨tb_282, tb_1, by decide +kernel⟩
abbrev M_X10_end : MD := (yX10_end, cX10_end, 2, some .boolean)
abbrev rm_X10_end : Room := { frames := 0, cells := 0, slots := 0, locals := 0 }
def w_X10_end_15 (K : Int → Hh → Prop) (a0 : Int) (h : Hh) : Prop := K 0 h
set_option maxRecDepth 100000 in
set_option maxHeartbeats 4000000 in
theorem t_X10_end_15 {G : Gx} {n0 : Int} {K : Int → Hh → Prop} {a0 : Int} (h0 : 0 ≤ a0)  (h : Hh) (hf : w_X10_end_15 K  a0  h) : PW G M_X10_end rm_X10_end 0 0 [] n0 K 15 [] [] [] 0 0 h := by
  unfold w_X10_end_15 at hf
  refine p_iconst dX10_end_15 (by decide) ?_
  exact p_zret dX10_end_16 rfl (by decide) (by decide) (fun _ q => absurd q List.not_mem_nil) (Or.inl rfl) hf
def w_X10_end (a0 x1 : Int) (h : Hh) (K : Int → Hh → Prop) : Prop := if x1 < 0 then (w_X10_end_15 K  a0  h) else (if x1 ≤ h (a0 + 1) 1 then (hb (up h (a0 + 1) 1 x1) fun h1 => K 1 h1) else (w_X10_end_15 K  a0  h))
set_option maxRecDepth 100000 in
set_option maxHeartbeats 4000000 in
theorem t_X10_end {G : Gx} (a0 x1 : Int) (h : Hh) (K : Int → Hh → Prop) (h0 : 0 ≤ a0) (hf : w_X10_end a0 x1 h K) : CT G M_X10_end rm_X10_end 0 0 [] [vr 10 a0 0, vi x1] h K := by
  unfold w_X10_end at hf
  refine CT.of (ls0 := [(0, vr 10 a0 0), (1, vi x1)]) (plainFor_of_name (by decide +kernel)) (by decide +kernel) (Nat.le_of_ble_eq_true rfl) rfl rfl ?_
  refine p_iload_n dX10_end_0 rfl 1 rfl ?_
  refine p_if_lt (tgt := 15) (q := x1 < 0) dX10_end_1 (by decide) Iff.rfl (fun hc => ?_) (fun hc => ?_)
  · replace hf := Eq.mp (if_pos hc) hf
    refine p_sub (ls' := []) [] rfl ?_
    exact t_X10_end_15 h0   _ hf
  · replace hf := Eq.mp (if_neg hc) hf
    refine p_iload_n dX10_end_4 rfl 1 rfl ?_
    refine p_aload_n dX10_end_5 rfl 0 rfl ?_
    refine p_lay (c := 10) (tq := 8) (n := 0) dX10_end_6 0 1 tb_227 (by decide) (by decide) h0 (by decide) (by decide) (fun _ => rfl) (vr 8 (a0 + 1) 0) rfl ?_
    refine p_getN (c := 8) (vi (h (a0 + 1) 1)) dX10_end_9 1 tb_31 (by decide) (by decide) (Or.inl rfl) (by omega) rfl rfl ?_
    refine p_icmp_le (tgt := 17) (q := x1 ≤ h (a0 + 1) 1) dX10_end_12 (by decide) Iff.rfl (fun hc => ?_) (fun hc => ?_)
    · replace hf := Eq.mp (if_pos hc) hf
      refine p_aload_n dX10_end_17 rfl 0 rfl ?_
      refine p_lay (c := 10) (tq := 8) (n := 0) dX10_end_18 0 1 tb_227 (by decide) (by decide) h0 (by decide) (by decide) (fun _ => rfl) (vr 8 (a0 + 1) 0) rfl ?_
      refine p_iload_n dX10_end_21 rfl 1 rfl ?_
      refine p_putiN (c := 8) dX10_end_22 1 tb_31 (by decide) (by decide) (Or.inl rfl) (by omega) rfl rfl (fun _ => by decide) (up h (a0 + 1) 1 x1) rfl ?_
      replace hf := hb_e hf
      generalize up h (a0 + 1) 1 x1 = h1 at hf ⊢
      refine p_iconst dX10_end_25 (by decide) ?_
      exact p_zret dX10_end_26 rfl (by decide) (by decide) (fun _ q => absurd q List.not_mem_nil) (Or.inr rfl) hf
    · replace hf := Eq.mp (if_neg hc) hf
      refine p_sub (ls' := []) [] rfl ?_
      exact t_X10_end_15 h0   _ hf
theorem ok_X10_end : mOK M_X10_end 1 := ⟨tb_290, tb_1, by decide +kernel⟩
abbrev M_X10_fault : MD := (yX10_fault, cX10_fault, 1, some .int)
abbrev rm_X10_fault : Room := { frames := 5, cells := 0, slots := 0, locals := 113 }
def w_X10_fault (a0 : Int) (h : Hh) (K : Int → Hh → Prop) : Prop := w_X5_faultOf (a0 + 3) (a0 + 1) h (fun r1 h2 => K r1 h2)
set_option maxRecDepth 100000 in
set_option maxHeartbeats 4000000 in
theorem t_X10_fault {G : Gx} (a0 : Int) (h : Hh) (K : Int → Hh → Prop) (h0 : 0 ≤ a0) (hf : w_X10_fault a0 h K) : CT G M_X10_fault rm_X10_fault 0 0 [] [vr 10 a0 0] h K := by
  unfold w_X10_fault at hf
  refine CT.of (ls0 := [(0, vr 10 a0 0)]) (plainFor_of_name (by decide +kernel)) (by decide +kernel) (Nat.le_of_ble_eq_true rfl) rfl rfl ?_
  refine p_aload_n dX10_fault_0 rfl 0 rfl ?_
  refine p_lay (c := 10) (tq := 5) (n := 0) dX10_fault_1 1 3 tb_228 (by decide) (by decide) h0 (by decide) (by decide) (fun _ => rfl) (vr 5 (a0 + 3) 0) rfl ?_
  refine p_aload_n dX10_fault_4 rfl 0 rfl ?_
  refine p_lay (c := 10) (tq := 8) (n := 0) dX10_fault_5 0 1 tb_227 (by decide) (by decide) h0 (by decide) (by decide) (fun _ => rfl) (vr 8 (a0 + 1) 0) rfl ?_
  refine p_callVNi dX10_fault_8 M_X5_faultOf (Or.inl rfl) [vr 8 (a0 + 1) 0] (t_X5_faultOf _ _ _ _ (by omega) hf) ok_X5_faultOf rfl (c := 5) (by decide) (by omega) rfl tb_295 ⟨tb_297, ts_1⟩ rfl (Nat.le_of_ble_eq_true rfl) ⟨rfl, rfl⟩ ⟨by decide, by decide⟩ ⟨by decide, by decide⟩ (fun r1 h2 hf => ?_)
  exact p_iret dX10_fault_11 rfl (by decide) (by decide) (fun _ q => absurd q List.not_mem_nil) hf
theorem ok_X10_fault : mOK M_X10_fault 0 := ⟨tb_294, tb_1, by decide +kernel⟩
abbrev M_X10_ruleAt : MD := (yX10_ruleAt, cX10_ruleAt, 2, some (.object "ThreadCharts$Rule"))
abbrev rm_X10_ruleAt : Room := { frames := 0, cells := 0, slots := 0, locals := 0 }
def w_X10_ruleAt_22 (K : Int → Hh → Prop) (a0 : Int) (s0 : Int) (h : Hh) : Prop := K s0 h
set_option maxRecDepth 100000 in
set_option maxHeartbeats 4000000 in
theorem t_X10_ruleAt_22 {G : Gx} {n0 : Int} {K : Int → Hh → Prop} {a0 : Int} (h0 : 0 ≤ a0)  (s0 : Int) (h : Hh) (hf : w_X10_ruleAt_22 K  a0 s0 h) : PW G M_X10_ruleAt rm_X10_ruleAt 0 0 [] n0 K 22 [] [vr 7 s0 0] [] 0 0 h := by
  unfold w_X10_ruleAt_22 at hf
  exact p_aret (Cn := "ThreadCharts$Rule") dX10_ruleAt_22 rfl (by decide) (by decide) (by decide) (fun _ q => absurd q List.not_mem_nil) hf
def w_X10_ruleAt_21 (K : Int → Hh → Prop) (a0 : Int) (h : Hh) : Prop := w_X10_ruleAt_22 K  a0 (-1) h
set_option maxRecDepth 100000 in
set_option maxHeartbeats 4000000 in
theorem t_X10_ruleAt_21 {G : Gx} {n0 : Int} {K : Int → Hh → Prop} {a0 : Int} (h0 : 0 ≤ a0)  (h : Hh) (hf : w_X10_ruleAt_21 K  a0  h) : PW G M_X10_ruleAt rm_X10_ruleAt 0 0 [] n0 K 21 [] [] [] 0 0 h := by
  unfold w_X10_ruleAt_21 at hf
  refine p_null (t := 7) dX10_ruleAt_21 (by decide) ?_
  exact t_X10_ruleAt_22 h0  _ _ hf
def w_X10_ruleAt (a0 x1 : Int) (h : Hh) (K : Int → Hh → Prop) : Prop := if x1 < 0 then (w_X10_ruleAt_21 K  a0  h) else (if x1 ≥ h a0 3 then (w_X10_ruleAt_21 K  a0  h) else (((0 : Int) ≤ x1 ∧ x1 < 6) ∧ (w_X10_ruleAt_22 K  a0 (h (a0 + 6) x1) h)))
set_option maxRecDepth 100000 in
set_option maxHeartbeats 4000000 in
theorem t_X10_ruleAt {G : Gx} (a0 x1 : Int) (h : Hh) (K : Int → Hh → Prop) (h0 : 0 ≤ a0) (hf : w_X10_ruleAt a0 x1 h K) : CT G M_X10_ruleAt rm_X10_ruleAt 0 0 [] [vr 10 a0 0, vi x1] h K := by
  unfold w_X10_ruleAt at hf
  refine CT.of (ls0 := [(0, vr 10 a0 0), (1, vi x1)]) (plainFor_of_name (by decide +kernel)) (by decide +kernel) (Nat.le_of_ble_eq_true rfl) rfl rfl ?_
  refine p_iload_n dX10_ruleAt_0 rfl 1 rfl ?_
  refine p_if_lt (tgt := 21) (q := x1 < 0) dX10_ruleAt_1 (by decide) Iff.rfl (fun hc => ?_) (fun hc => ?_)
  · replace hf := Eq.mp (if_pos hc) hf
    refine p_sub (ls' := []) [] rfl ?_
    exact t_X10_ruleAt_21 h0   _ hf
  · replace hf := Eq.mp (if_neg hc) hf
    refine p_iload_n dX10_ruleAt_4 rfl 1 rfl ?_
    refine p_aload_n dX10_ruleAt_5 rfl 0 rfl ?_
    refine p_get (c := 10) (vi (h a0 3)) dX10_ruleAt_6 3 tb_230 (by decide) (by decide) (Or.inl rfl) h0 rfl rfl ?_
    refine p_icmp_ge (tgt := 21) (q := x1 ≥ h a0 3) dX10_ruleAt_9 (by decide) Iff.rfl (fun hc => ?_) (fun hc => ?_)
    · replace hf := Eq.mp (if_pos hc) hf
      refine p_sub (ls' := []) [] rfl ?_
      exact t_X10_ruleAt_21 h0   _ hf
    · replace hf := Eq.mp (if_neg hc) hf
      refine p_aload_n dX10_ruleAt_12 rfl 0 rfl ?_
      refine p_lay (c := 10) (tq := 103) (n := 6) dX10_ruleAt_13 2 6 tb_229 (by decide) (by decide) h0 (by decide) (by decide) (fun _ => rfl) (vr 103 (a0 + 6) 6) rfl ?_
      refine p_iload_n dX10_ruleAt_16 rfl 1 rfl ?_
      obtain ⟨c1, hf⟩ := hf
      refine p_aald7 dX10_ruleAt_17 (by omega) c1 ?_
      refine p_goto (tgt := 22) dX10_ruleAt_18 (by decide) ?_
      refine p_sub (ls' := []) [] rfl ?_
      exact t_X10_ruleAt_22 h0  _ _ hf
theorem ok_X10_ruleAt : mOK M_X10_ruleAt 1 := ⟨tb_388, tb_1, by decide +kernel⟩
abbrev M_X10_told : MD := (yX10_told, cX10_told, 4, some .int)
abbrev rm_X10_told : Room := { frames := 2, cells := 0, slots := 0, locals := 42 }
def w_X10_told_74 (K : Int → Hh → Prop) (a0 : Int) (h : Hh) : Prop := K (-2147483648) h
set_option maxRecDepth 100000 in
set_option maxHeartbeats 4000000 in
theorem t_X10_told_74 {G : Gx} {n0 : Int} {K : Int → Hh → Prop} {a0 : Int} (h0 : 0 ≤ a0)  (h : Hh) (hf : w_X10_told_74 K  a0  h) : PW G M_X10_told rm_X10_told 0 0 [] n0 K 74 [] [] [] 0 0 h := by
  unfold w_X10_told_74 at hf
  refine p_ldc (z := (-2147483648)) dX10_told_74 tb_389 (by decide) ?_
  exact p_iret dX10_told_76 rfl (by decide) (by decide) (fun _ q => absurd q List.not_mem_nil) hf
def w_X10_told_53 (K : Int → Hh → Prop) (a0 : Int) (v2 v3 : Int) (h : Hh) : Prop := if v2 < 20 then (w_X10_told_74 K  a0  h) else (if v2 ≥ 30 then (w_X10_told_74 K  a0  h) else (0 ≤ v3 ∧ (w_X7_signOf v3 (w32 (v2 - 20)) h (fun r4 h5 => K r4 h5))))
set_option maxRecDepth 100000 in
set_option maxHeartbeats 4000000 in
theorem t_X10_told_53 {G : Gx} {n0 : Int} {K : Int → Hh → Prop} {a0 : Int} (h0 : 0 ≤ a0)  (v2 v3 : Int) (h : Hh) (hf : w_X10_told_53 K  a0 v2 v3 h) : PW G M_X10_told rm_X10_told 0 0 [] n0 K 53 [(2, vi v2), (3, vr 7 v3 0)] [] [] 0 0 h := by
  unfold w_X10_told_53 at hf
  refine p_iload_n dX10_told_53 rfl 0 rfl ?_
  refine p_bipush dX10_told_54 (by decide) (by decide) ?_
  refine p_icmp_lt (tgt := 74) (q := v2 < 20) dX10_told_56 (by decide) Iff.rfl (fun hc => ?_) (fun hc => ?_)
  · replace hf := Eq.mp (if_pos hc) hf
    refine p_sub (ls' := []) [] rfl ?_
    exact t_X10_told_74 h0   _ hf
  · replace hf := Eq.mp (if_neg hc) hf
    refine p_iload_n dX10_told_59 rfl 0 rfl ?_
    refine p_bipush dX10_told_60 (by decide) (by decide) ?_
    refine p_icmp_ge (tgt := 74) (q := v2 ≥ 30) dX10_told_62 (by decide) Iff.rfl (fun hc => ?_) (fun hc => ?_)
    · replace hf := Eq.mp (if_pos hc) hf
      refine p_sub (ls' := []) [] rfl ?_
      exact t_X10_told_74 h0   _ hf
    · replace hf := Eq.mp (if_neg hc) hf
      refine p_aload_n dX10_told_65 rfl 1 rfl ?_
      refine p_iload_n dX10_told_66 rfl 0 rfl ?_
      refine p_bipush dX10_told_67 (by decide) (by decide) ?_
      refine p_isub dX10_told_69 ?_
      obtain ⟨c3, hf⟩ := hf
      refine p_callVNi dX10_told_70 M_X7_signOf (Or.inl rfl) [vi (w32 (v2 - 20))] (t_X7_signOf _ _ _ _ c3 hf) ok_X7_signOf rfl (c := 7) (by decide) c3 rfl tb_399 ⟨tb_401, ts_14⟩ rfl (Nat.le_of_ble_eq_true rfl) ⟨rfl, rfl⟩ ⟨by decide, by decide⟩ ⟨by decide, by decide⟩ (fun r4 h5 hf => ?_)
      exact p_iret dX10_told_73 rfl (by decide) (by decide) (fun _ q => absurd q List.not_mem_nil) hf
def w_X10_told (a0 x1 x2 : Int) (h : Hh) (K : Int → Hh → Prop) : Prop := w_X10_ruleAt a0 x1 h (fun r1 h2 => if r1 ≠ -1 then (if x2 ≠ 0 then (if x2 ≠ 1 then (if x2 < 10 then (w_X10_told_53 K  a0 x2 r1 h2) else (if x2 ≥ 20 then (w_X10_told_53 K  a0 x2 r1 h2) else (0 ≤ r1 ∧ (w_X7_kindOf r1 (w32 (x2 - 10)) h2 (fun r7 h8 => K r7 h8))))) else (0 ≤ r1 ∧ (K (h2 r1 1) h2))) else (0 ≤ r1 ∧ (K (h2 r1 0) h2))) else (K (-2147483648) h2))
set_option maxRecDepth 100000 in
set_option maxHeartbeats 4000000 in
theorem t_X10_told {G : Gx} (a0 x1 x2 : Int) (h : Hh) (K : Int → Hh → Prop) (h0 : 0 ≤ a0) (hf : w_X10_told a0 x1 x2 h K) : CT G M_X10_told rm_X10_told 0 0 [] [vr 10 a0 0, vi x1, vi x2] h K := by
  unfold w_X10_told at hf
  refine CT.of (ls0 := [(0, vr 10 a0 0), (1, vi x1), (2, vi x2)]) (plainFor_of_name (by decide +kernel)) (by decide +kernel) (Nat.le_of_ble_eq_true rfl) rfl rfl ?_
  refine p_aload_n dX10_told_0 rfl 0 rfl ?_
  refine p_iload_n dX10_told_1 rfl 1 rfl ?_
  refine p_callVr (Cn := "ThreadCharts$Rule") dX10_told_2 M_X10_ruleAt rfl [vi x1] (t_X10_ruleAt _ _ _ _ h0 hf) ok_X10_ruleAt rfl (c := 10) (by decide) h0 rfl tb_385 ⟨tb_387, ts_11⟩ rfl (Nat.le_of_ble_eq_true rfl) ⟨rfl, rfl⟩ ⟨by decide, by decide⟩ ⟨by decide, by decide⟩ (fun r1 h2 hf => ?_)
  refine p_astore_n (ls' := [(3, vr 7 r1 0), (0, vr 10 a0 0), (1, vi x1), (2, vi x2)]) dX10_told_5 rfl (by decide) rfl ?_
  refine p_aload_n dX10_told_6 rfl 0 rfl ?_
  refine p_ifnonnull (tgt := 13) dX10_told_7 (by decide) (by decide) (fun hc => ?_) (fun hc => ?_)
  · replace hf := Eq.mp (if_pos hc) hf
    refine p_iload_n dX10_told_13 rfl 3 rfl ?_
    refine p_if_ne (tgt := 22) (q := x2 ≠ 0) dX10_told_14 (by decide) Iff.rfl (fun hc => ?_) (fun hc => ?_)
    · replace hf := Eq.mp (if_pos hc) hf
      refine p_iload_n dX10_told_22 rfl 3 rfl ?_
      refine p_iconst dX10_told_23 (by decide) ?_
      refine p_icmp_ne (tgt := 32) (q := x2 ≠ 1) dX10_told_24 (by decide) Iff.rfl (fun hc => ?_) (fun hc => ?_)
      · replace hf := Eq.mp (if_pos hc) hf
        refine p_iload_n dX10_told_32 rfl 3 rfl ?_
        refine p_bipush dX10_told_33 (by decide) (by decide) ?_
        refine p_icmp_lt (tgt := 53) (q := x2 < 10) dX10_told_35 (by decide) Iff.rfl (fun hc => ?_) (fun hc => ?_)
        · replace hf := Eq.mp (if_pos hc) hf
          refine p_sub (ls' := [(2, vi x2), (3, vr 7 r1 0)]) [3, 0] rfl ?_
          exact t_X10_told_53 h0  _ _ _ hf
        · replace hf := Eq.mp (if_neg hc) hf
          refine p_iload_n dX10_told_38 rfl 3 rfl ?_
          refine p_bipush dX10_told_39 (by decide) (by decide) ?_
          refine p_icmp_ge (tgt := 53) (q := x2 ≥ 20) dX10_told_41 (by decide) Iff.rfl (fun hc => ?_) (fun hc => ?_)
          · replace hf := Eq.mp (if_pos hc) hf
            refine p_sub (ls' := [(2, vi x2), (3, vr 7 r1 0)]) [3, 0] rfl ?_
            exact t_X10_told_53 h0  _ _ _ hf
          · replace hf := Eq.mp (if_neg hc) hf
            refine p_aload_n dX10_told_44 rfl 0 rfl ?_
            refine p_iload_n dX10_told_45 rfl 3 rfl ?_
            refine p_bipush dX10_told_46 (by decide) (by decide) ?_
            refine p_isub dX10_told_48 ?_
            obtain ⟨c6, hf⟩ := hf
            refine p_callVNi dX10_told_49 M_X7_kindOf (Or.inl rfl) [vi (w32 (x2 - 10))] (t_X7_kindOf _ _ _ _ c6 hf) ok_X7_kindOf rfl (c := 7) (by decide) c6 rfl tb_390 ⟨tb_392, ts_12⟩ rfl (Nat.le_of_ble_eq_true rfl) ⟨rfl, rfl⟩ ⟨by decide, by decide⟩ ⟨by decide, by decide⟩ (fun r7 h8 hf => ?_)
            exact p_iret dX10_told_52 rfl (by decide) (by decide) (fun _ q => absurd q List.not_mem_nil) hf
      · replace hf := Eq.mp (if_neg hc) hf
        refine p_aload_n dX10_told_27 rfl 0 rfl ?_
        obtain ⟨c9, hf⟩ := hf
        refine p_getN (c := 7) (vi (h2 r1 1)) dX10_told_28 1 tb_357 (by decide) (by decide) (Or.inl rfl) c9 rfl rfl ?_
        exact p_iret dX10_told_31 rfl (by decide) (by decide) (fun _ q => absurd q List.not_mem_nil) hf
    · replace hf := Eq.mp (if_neg hc) hf
      refine p_aload_n dX10_told_17 rfl 0 rfl ?_
      obtain ⟨c10, hf⟩ := hf
      refine p_getN (c := 7) (vi (h2 r1 0)) dX10_told_18 0 tb_355 (by decide) (by decide) (Or.inl rfl) c10 rfl rfl ?_
      exact p_iret dX10_told_21 rfl (by decide) (by decide) (fun _ q => absurd q List.not_mem_nil) hf
  · replace hf := Eq.mp (if_neg hc) hf
    refine p_ldc (z := (-2147483648)) dX10_told_10 tb_389 (by decide) ?_
    exact p_iret dX10_told_12 rfl (by decide) (by decide) (fun _ q => absurd q List.not_mem_nil) hf
theorem ok_X10_told : mOK M_X10_told 2 := ⟨tb_384, tb_1, by decide +kernel⟩
abbrev M_X10_range : MD := (yX10_range, cX10_range, 7, some .int)
abbrev rm_X10_range : Room := { frames := 4, cells := 0, slots := 0, locals := 94 }
def w_X10_range_26 (K : Int → Hh → Prop) (a0 : Int) (h : Hh) : Prop := K (-1) h
set_option maxRecDepth 100000 in
set_option maxHeartbeats 4000000 in
theorem t_X10_range_26 {G : Gx} {n0 : Int} {K : Int → Hh → Prop} {a0 : Int} (h0 : 0 ≤ a0)  (h : Hh) (hf : w_X10_range_26 K  a0  h) : PW G M_X10_range rm_X10_range 0 0 [] n0 K 26 [] [] [] 0 0 h := by
  unfold w_X10_range_26 at hf
  refine p_iconst dX10_range_26 (by decide) ?_
  exact p_iret dX10_range_27 rfl (by decide) (by decide) (fun _ q => absurd q List.not_mem_nil) hf
def w_X10_range (a0 x1 x2 x3 x4 x5 : Int) (h : Hh) (K : Int → Hh → Prop) : Prop := w_X10_ruleAt a0 x1 h (fun r1 h2 => if r1 = -1 then (w_X10_range_26 K  a0  h2) else (0 ≤ r1 ∧ (w_X7_canRange r1 x2 x3 x4 x5 h2 (fun r4 h5 => if r4 ≠ 0 then (w_X7_putRange r1 x2 x3 x4 x5 h5 (fun _ h6 => K x5 h6)) else (w_X10_range_26 K  a0  h5)))))
set_option maxRecDepth 100000 in
set_option maxHeartbeats 4000000 in
theorem t_X10_range {G : Gx} (a0 x1 x2 x3 x4 x5 : Int) (h : Hh) (K : Int → Hh → Prop) (h0 : 0 ≤ a0) (hf : w_X10_range a0 x1 x2 x3 x4 x5 h K) : CT G M_X10_range rm_X10_range 0 0 [] [vr 10 a0 0, vi x1, vi x2, vi x3, vi x4, vi x5] h K := by
  unfold w_X10_range at hf
  refine CT.of (ls0 := [(0, vr 10 a0 0), (1, vi x1), (2, vi x2), (3, vi x3), (4, vi x4), (5, vi x5)]) (plainFor_of_name (by decide +kernel)) (by decide +kernel) (Nat.le_of_ble_eq_true rfl) rfl rfl ?_
  refine p_aload_n dX10_range_0 rfl 0 rfl ?_
  refine p_iload_n dX10_range_1 rfl 1 rfl ?_
  refine p_callVr (Cn := "ThreadCharts$Rule") dX10_range_2 M_X10_ruleAt rfl [vi x1] (t_X10_ruleAt _ _ _ _ h0 hf) ok_X10_ruleAt rfl (c := 10) (by decide) h0 rfl tb_385 ⟨tb_387, ts_11⟩ rfl (Nat.le_of_ble_eq_true rfl) ⟨rfl, rfl⟩ ⟨by decide, by decide⟩ ⟨by decide, by decide⟩ (fun r1 h2 hf => ?_)
  refine p_astore (ls' := [(6, vr 7 r1 0), (0, vr 10 a0 0), (1, vi x1), (2, vi x2), (3, vi x3), (4, vi x4), (5, vi x5)]) dX10_range_5 (by decide) rfl ?_
  refine p_aload dX10_range_7 0 rfl ?_
  refine p_ifnull (tgt := 26) dX10_range_9 (by decide) (by decide) (fun hc => ?_) (fun hc => ?_)
  · replace hf := Eq.mp (if_pos hc) hf
    refine p_sub (ls' := []) [] rfl ?_
    exact t_X10_range_26 h0   _ hf
  · replace hf := Eq.mp (if_neg hc) hf
    refine p_aload dX10_range_12 0 rfl ?_
    refine p_iload_n dX10_range_14 rfl 3 rfl ?_
    refine p_iload_n dX10_range_15 rfl 4 rfl ?_
    refine p_iload dX10_range_16 5 rfl ?_
    refine p_iload dX10_range_18 6 rfl ?_
    obtain ⟨c3, hf⟩ := hf
    refine p_callVNi dX10_range_20 M_X7_canRange (Or.inr rfl) [vi x2, vi x3, vi x4, vi x5] (t_X7_canRange _ _ _ _ _ _ _ c3 hf) ok_X7_canRange rfl (c := 7) (by decide) c3 rfl tb_407 ⟨tb_409, ts_15⟩ rfl (Nat.le_of_ble_eq_true rfl) ⟨rfl, rfl⟩ ⟨by decide, by decide⟩ ⟨by decide, by decide⟩ (fun r4 h5 hf => ?_)
    refine p_if_ne (tgt := 28) (q := r4 ≠ 0) dX10_range_23 (by decide) Iff.rfl (fun hc => ?_) (fun hc => ?_)
    · replace hf := Eq.mp (if_pos hc) hf
      refine p_aload dX10_range_28 0 rfl ?_
      refine p_iload_n dX10_range_30 rfl 3 rfl ?_
      refine p_iload_n dX10_range_31 rfl 4 rfl ?_
      refine p_iload dX10_range_32 5 rfl ?_
      refine p_iload dX10_range_34 6 rfl ?_
      refine p_callVNv dX10_range_36 M_X7_putRange rfl [vi x2, vi x3, vi x4, vi x5] (t_X7_putRange _ _ _ _ _ _ _ c3 hf) ok_X7_putRange rfl (c := 7) (by decide) c3 rfl tb_417 ⟨tb_419, ts_16⟩ rfl (Nat.le_of_ble_eq_true rfl) ⟨rfl, rfl⟩ ⟨by decide, by decide⟩ ⟨by decide, by decide⟩ (fun _ h6 hf => ?_)
      refine p_iload dX10_range_39 6 rfl ?_
      exact p_iret dX10_range_41 rfl (by decide) (by decide) (fun _ q => absurd q List.not_mem_nil) hf
    · replace hf := Eq.mp (if_neg hc) hf
      refine p_sub (ls' := []) [] rfl ?_
      exact t_X10_range_26 h0   _ hf
theorem ok_X10_range : mOK M_X10_range 5 := ⟨tb_406, tb_1, by decide +kernel⟩
abbrev M_X10_mark : MD := (yX10_mark, cX10_mark, 5, some .int)
abbrev rm_X10_mark : Room := { frames := 3, cells := 0, slots := 0, locals := 65 }
def w_X10_mark_22 (K : Int → Hh → Prop) (a0 : Int) (h : Hh) : Prop := K (-2147483648) h
set_option maxRecDepth 100000 in
set_option maxHeartbeats 4000000 in
theorem t_X10_mark_22 {G : Gx} {n0 : Int} {K : Int → Hh → Prop} {a0 : Int} (h0 : 0 ≤ a0)  (h : Hh) (hf : w_X10_mark_22 K  a0  h) : PW G M_X10_mark rm_X10_mark 0 0 [] n0 K 22 [] [] [] 0 0 h := by
  unfold w_X10_mark_22 at hf
  refine p_ldc (z := (-2147483648)) dX10_mark_22 tb_389 (by decide) ?_
  exact p_iret dX10_mark_24 rfl (by decide) (by decide) (fun _ q => absurd q List.not_mem_nil) hf
def w_X10_mark (a0 x1 x2 x3 : Int) (h : Hh) (K : Int → Hh → Prop) : Prop := w_X10_ruleAt a0 x1 h (fun r1 h2 => if r1 = -1 then (w_X10_mark_22 K  a0  h2) else (0 ≤ r1 ∧ (w_X7_hasMark r1 x2 x3 h2 (fun r4 h5 => if r4 ≠ 0 then (w_X7_numberOf r1 x2 x3 h5 (fun r6 h7 => K r6 h7)) else (w_X10_mark_22 K  a0  h5)))))
set_option maxRecDepth 100000 in
set_option maxHeartbeats 4000000 in
theorem t_X10_mark {G : Gx} (a0 x1 x2 x3 : Int) (h : Hh) (K : Int → Hh → Prop) (h0 : 0 ≤ a0) (hf : w_X10_mark a0 x1 x2 x3 h K) : CT G M_X10_mark rm_X10_mark 0 0 [] [vr 10 a0 0, vi x1, vi x2, vi x3] h K := by
  unfold w_X10_mark at hf
  refine CT.of (ls0 := [(0, vr 10 a0 0), (1, vi x1), (2, vi x2), (3, vi x3)]) (plainFor_of_name (by decide +kernel)) (by decide +kernel) (Nat.le_of_ble_eq_true rfl) rfl rfl ?_
  refine p_aload_n dX10_mark_0 rfl 0 rfl ?_
  refine p_iload_n dX10_mark_1 rfl 1 rfl ?_
  refine p_callVr (Cn := "ThreadCharts$Rule") dX10_mark_2 M_X10_ruleAt rfl [vi x1] (t_X10_ruleAt _ _ _ _ h0 hf) ok_X10_ruleAt rfl (c := 10) (by decide) h0 rfl tb_385 ⟨tb_387, ts_11⟩ rfl (Nat.le_of_ble_eq_true rfl) ⟨rfl, rfl⟩ ⟨by decide, by decide⟩ ⟨by decide, by decide⟩ (fun r1 h2 hf => ?_)
  refine p_astore (ls' := [(4, vr 7 r1 0), (0, vr 10 a0 0), (1, vi x1), (2, vi x2), (3, vi x3)]) dX10_mark_5 (by decide) rfl ?_
  refine p_aload dX10_mark_7 0 rfl ?_
  refine p_ifnull (tgt := 22) dX10_mark_9 (by decide) (by decide) (fun hc => ?_) (fun hc => ?_)
  · replace hf := Eq.mp (if_pos hc) hf
    refine p_sub (ls' := []) [] rfl ?_
    exact t_X10_mark_22 h0   _ hf
  · replace hf := Eq.mp (if_neg hc) hf
    refine p_aload dX10_mark_12 0 rfl ?_
    refine p_iload_n dX10_mark_14 rfl 3 rfl ?_
    refine p_iload_n dX10_mark_15 rfl 4 rfl ?_
    obtain ⟨c3, hf⟩ := hf
    refine p_callVNi dX10_mark_16 M_X7_hasMark (Or.inr rfl) [vi x2, vi x3] (t_X7_hasMark _ _ _ _ _ c3 hf) ok_X7_hasMark rfl (c := 7) (by decide) c3 rfl tb_441 ⟨tb_443, ts_18⟩ rfl (Nat.le_of_ble_eq_true rfl) ⟨rfl, rfl⟩ ⟨by decide, by decide⟩ ⟨by decide, by decide⟩ (fun r4 h5 hf => ?_)
    refine p_if_ne (tgt := 25) (q := r4 ≠ 0) dX10_mark_19 (by decide) Iff.rfl (fun hc => ?_) (fun hc => ?_)
    · replace hf := Eq.mp (if_pos hc) hf
      refine p_aload dX10_mark_25 0 rfl ?_
      refine p_iload_n dX10_mark_27 rfl 3 rfl ?_
      refine p_iload_n dX10_mark_28 rfl 4 rfl ?_
      refine p_callVNi dX10_mark_29 M_X7_numberOf (Or.inl rfl) [vi x2, vi x3] (t_X7_numberOf _ _ _ _ _ c3 hf) ok_X7_numberOf rfl (c := 7) (by decide) c3 rfl tb_445 ⟨tb_447, ts_19⟩ rfl (Nat.le_of_ble_eq_true rfl) ⟨rfl, rfl⟩ ⟨by decide, by decide⟩ ⟨by decide, by decide⟩ (fun r6 h7 hf => ?_)
      exact p_iret dX10_mark_32 rfl (by decide) (by decide) (fun _ q => absurd q List.not_mem_nil) hf
    · replace hf := Eq.mp (if_neg hc) hf
      refine p_sub (ls' := []) [] rfl ?_
      exact t_X10_mark_22 h0   _ hf
theorem ok_X10_mark : mOK M_X10_mark 3 := ⟨tb_440, tb_1, by decide +kernel⟩
abbrev M_X10_areModuli : MD := (yX10_areModuli, cX10_areModuli, 4, some .boolean)
abbrev rm_X10_areModuli : Room := { frames := 0, cells := 0, slots := 0, locals := 0 }
def w_X10_areModuli_51 (K : Int → Hh → Prop) (s0 : Int) (h : Hh) : Prop := (s0 = 0 ∨ s0 = 1) ∧ (K s0 h)
set_option maxRecDepth 100000 in
set_option maxHeartbeats 4000000 in
theorem t_X10_areModuli_51 {G : Gx} {n0 : Int} {K : Int → Hh → Prop}  (s0 : Int) (h : Hh) (hf : w_X10_areModuli_51 K   s0 h) : PW G M_X10_areModuli rm_X10_areModuli 0 0 [] n0 K 51 [] [vi s0] [] 0 0 h := by
  unfold w_X10_areModuli_51 at hf
  obtain ⟨c3, hf⟩ := hf
  exact p_zret dX10_areModuli_51 rfl (by decide) (by decide) (fun _ q => absurd q List.not_mem_nil) c3 hf
def w_X10_areModuli_50 (K : Int → Hh → Prop) (h : Hh) : Prop := w_X10_areModuli_51 K   0 h
set_option maxRecDepth 100000 in
set_option maxHeartbeats 4000000 in
theorem t_X10_areModuli_50 {G : Gx} {n0 : Int} {K : Int → Hh → Prop}  (h : Hh) (hf : w_X10_areModuli_50 K    h) : PW G M_X10_areModuli rm_X10_areModuli 0 0 [] n0 K 50 [] [] [] 0 0 h := by
  unfold w_X10_areModuli_50 at hf
  refine p_iconst dX10_areModuli_50 (by decide) ?_
  exact t_X10_areModuli_51  _ _ hf
def w_X10_areModuli_13 (K : Int → Hh → Prop) (s0 : Int) (h : Hh) : Prop := (s0 = 0 ∨ s0 = 1) ∧ (K s0 h)
set_option maxRecDepth 100000 in
set_option maxHeartbeats 4000000 in
theorem t_X10_areModuli_13 {G : Gx} {n0 : Int} {K : Int → Hh → Prop}  (s0 : Int) (h : Hh) (hf : w_X10_areModuli_13 K   s0 h) : PW G M_X10_areModuli rm_X10_areModuli 0 0 [] n0 K 13 [] [vi s0] [] 0 0 h := by
  unfold w_X10_areModuli_13 at hf
  obtain ⟨c4, hf⟩ := hf
  exact p_zret dX10_areModuli_13 rfl (by decide) (by decide) (fun _ q => absurd q List.not_mem_nil) c4 hf
def w_X10_areModuli (x0 x1 : Int) (h : Hh) (K : Int → Hh → Prop) : Prop := if x1 ≠ 0 then (vb (w32 (Int.tdiv x0 100)) fun z1 => vb (Int.tmod x0 100) fun z2 => if z1 < 1 then (w_X10_areModuli_50 K    h) else (if z1 > 50 then (w_X10_areModuli_50 K    h) else (if z2 < 1 then (w_X10_areModuli_50 K    h) else (if z2 > 50 then (w_X10_areModuli_50 K    h) else (w_X10_areModuli_51 K   1 h))))) else (if x0 ≠ 0 then (w_X10_areModuli_13 K   0 h) else (w_X10_areModuli_13 K   1 h))
set_option maxRecDepth 100000 in
set_option maxHeartbeats 4000000 in
theorem t_X10_areModuli {G : Gx} (x0 x1 : Int) (h : Hh) (K : Int → Hh → Prop) (hf : w_X10_areModuli x0 x1 h K) : CT G M_X10_areModuli rm_X10_areModuli 0 0 [] [vi x0, vi x1] h K := by
  unfold w_X10_areModuli at hf
  refine CT.of (ls0 := [(0, vi x0), (1, vi x1)]) (plainFor_of_name (by decide +kernel)) (by decide +kernel) (Nat.le_of_ble_eq_true rfl) rfl rfl ?_
  refine p_iload_n dX10_areModuli_0 rfl 1 rfl ?_
  refine p_if_ne (tgt := 14) (q := x1 ≠ 0) dX10_areModuli_1 (by decide) Iff.rfl (fun hc => ?_) (fun hc => ?_)
  · replace hf := Eq.mp (if_pos hc) hf
    refine p_iload_n dX10_areModuli_14 rfl 0 rfl ?_
    refine p_bipush dX10_areModuli_15 (by decide) (by decide) ?_
    refine p_idiv dX10_areModuli_17 (by decide) ?_
    refine p_istore_n (ls' := [(2, vi (w32 (Int.tdiv x0 100))), (0, vi x0), (1, vi x1)]) dX10_areModuli_18 rfl (by decide) rfl ?_
    replace hf := vb_e hf
    generalize (w32 (Int.tdiv x0 100)) = z1 at hf ⊢
    refine p_iload_n dX10_areModuli_19 rfl 1 rfl ?_
    refine p_bipush dX10_areModuli_20 (by decide) (by decide) ?_
    refine p_irem dX10_areModuli_22 (by decide) ?_
    refine p_istore_n (ls' := [(3, vi (Int.tmod x0 100)), (2, vi z1), (0, vi x0), (1, vi x1)]) dX10_areModuli_23 rfl (by decide) rfl ?_
    replace hf := vb_e hf
    generalize (Int.tmod x0 100) = z2 at hf ⊢
    refine p_iload_n dX10_areModuli_24 rfl 1 rfl ?_
    refine p_iconst dX10_areModuli_25 (by decide) ?_
    refine p_icmp_lt (tgt := 50) (q := z1 < 1) dX10_areModuli_26 (by decide) Iff.rfl (fun hc => ?_) (fun hc => ?_)
    · replace hf := Eq.mp (if_pos hc) hf
      refine p_sub (ls' := []) [] rfl ?_
      exact t_X10_areModuli_50   _ hf
    · replace hf := Eq.mp (if_neg hc) hf
      refine p_iload_n dX10_areModuli_29 rfl 1 rfl ?_
      refine p_bipush dX10_areModuli_30 (by decide) (by decide) ?_
      refine p_icmp_gt (tgt := 50) (q := z1 > 50) dX10_areModuli_32 (by decide) Iff.rfl (fun hc => ?_) (fun hc => ?_)
      · replace hf := Eq.mp (if_pos hc) hf
        refine p_sub (ls' := []) [] rfl ?_
        exact t_X10_areModuli_50   _ hf
      · replace hf := Eq.mp (if_neg hc) hf
        refine p_iload_n dX10_areModuli_35 rfl 0 rfl ?_
        refine p_iconst dX10_areModuli_36 (by decide) ?_
        refine p_icmp_lt (tgt := 50) (q := z2 < 1) dX10_areModuli_37 (by decide) Iff.rfl (fun hc => ?_) (fun hc => ?_)
        · replace hf := Eq.mp (if_pos hc) hf
          refine p_sub (ls' := []) [] rfl ?_
          exact t_X10_areModuli_50   _ hf
        · replace hf := Eq.mp (if_neg hc) hf
          refine p_iload_n dX10_areModuli_40 rfl 0 rfl ?_
          refine p_bipush dX10_areModuli_41 (by decide) (by decide) ?_
          refine p_icmp_gt (tgt := 50) (q := z2 > 50) dX10_areModuli_43 (by decide) Iff.rfl (fun hc => ?_) (fun hc => ?_)
          · replace hf := Eq.mp (if_pos hc) hf
            refine p_sub (ls' := []) [] rfl ?_
            exact t_X10_areModuli_50   _ hf
          · replace hf := Eq.mp (if_neg hc) hf
            refine p_iconst dX10_areModuli_46 (by decide) ?_
            refine p_goto (tgt := 51) dX10_areModuli_47 (by decide) ?_
            refine p_sub (ls' := []) [] rfl ?_
            exact t_X10_areModuli_51  _ _ hf
  · replace hf := Eq.mp (if_neg hc) hf
    refine p_iload_n dX10_areModuli_4 rfl 0 rfl ?_
    refine p_if_ne (tgt := 12) (q := x0 ≠ 0) dX10_areModuli_5 (by decide) Iff.rfl (fun hc => ?_) (fun hc => ?_)
    · replace hf := Eq.mp (if_pos hc) hf
      refine p_iconst dX10_areModuli_12 (by decide) ?_
      refine p_sub (ls' := []) [] rfl ?_
      exact t_X10_areModuli_13  _ _ hf
    · replace hf := Eq.mp (if_neg hc) hf
      refine p_iconst dX10_areModuli_8 (by decide) ?_
      refine p_goto (tgt := 13) dX10_areModuli_9 (by decide) ?_
      refine p_sub (ls' := []) [] rfl ?_
      exact t_X10_areModuli_13  _ _ hf
theorem ok_X10_areModuli : mOK M_X10_areModuli 2 := ⟨tb_464, tb_1, by decide +kernel⟩
abbrev M_X10_chartAt : MD := (yX10_chartAt, cX10_chartAt, 2, some (.object "ThreadCharts$Chart"))
abbrev rm_X10_chartAt : Room := { frames := 0, cells := 0, slots := 0, locals := 0 }
def w_X10_chartAt_22 (K : Int → Hh → Prop) (a0 : Int) (s0 : Int) (h : Hh) : Prop := K s0 h
set_option maxRecDepth 100000 in
set_option maxHeartbeats 4000000 in
theorem t_X10_chartAt_22 {G : Gx} {n0 : Int} {K : Int → Hh → Prop} {a0 : Int} (h0 : 0 ≤ a0)  (s0 : Int) (h : Hh) (hf : w_X10_chartAt_22 K  a0 s0 h) : PW G M_X10_chartAt rm_X10_chartAt 0 0 [] n0 K 22 [] [vr 0 s0 0] [] 0 0 h := by
  unfold w_X10_chartAt_22 at hf
  exact p_aret (Cn := "ThreadCharts$Chart") dX10_chartAt_22 rfl (by decide) (by decide) (by decide) (fun _ q => absurd q List.not_mem_nil) hf
def w_X10_chartAt_21 (K : Int → Hh → Prop) (a0 : Int) (h : Hh) : Prop := w_X10_chartAt_22 K  a0 (-1) h
set_option maxRecDepth 100000 in
set_option maxHeartbeats 4000000 in
theorem t_X10_chartAt_21 {G : Gx} {n0 : Int} {K : Int → Hh → Prop} {a0 : Int} (h0 : 0 ≤ a0)  (h : Hh) (hf : w_X10_chartAt_21 K  a0  h) : PW G M_X10_chartAt rm_X10_chartAt 0 0 [] n0 K 21 [] [] [] 0 0 h := by
  unfold w_X10_chartAt_21 at hf
  refine p_null (t := 0) dX10_chartAt_21 (by decide) ?_
  exact t_X10_chartAt_22 h0  _ _ hf
def w_X10_chartAt (a0 x1 : Int) (h : Hh) (K : Int → Hh → Prop) : Prop := if x1 < 0 then (w_X10_chartAt_21 K  a0  h) else (if x1 ≥ h a0 5 then (w_X10_chartAt_21 K  a0  h) else (((0 : Int) ≤ x1 ∧ x1 < 6) ∧ (w_X10_chartAt_22 K  a0 (h (a0 + 7) x1) h)))
set_option maxRecDepth 100000 in
set_option maxHeartbeats 4000000 in
theorem t_X10_chartAt {G : Gx} (a0 x1 : Int) (h : Hh) (K : Int → Hh → Prop) (h0 : 0 ≤ a0) (hf : w_X10_chartAt a0 x1 h K) : CT G M_X10_chartAt rm_X10_chartAt 0 0 [] [vr 10 a0 0, vi x1] h K := by
  unfold w_X10_chartAt at hf
  refine CT.of (ls0 := [(0, vr 10 a0 0), (1, vi x1)]) (plainFor_of_name (by decide +kernel)) (by decide +kernel) (Nat.le_of_ble_eq_true rfl) rfl rfl ?_
  refine p_iload_n dX10_chartAt_0 rfl 1 rfl ?_
  refine p_if_lt (tgt := 21) (q := x1 < 0) dX10_chartAt_1 (by decide) Iff.rfl (fun hc => ?_) (fun hc => ?_)
  · replace hf := Eq.mp (if_pos hc) hf
    refine p_sub (ls' := []) [] rfl ?_
    exact t_X10_chartAt_21 h0   _ hf
  · replace hf := Eq.mp (if_neg hc) hf
    refine p_iload_n dX10_chartAt_4 rfl 1 rfl ?_
    refine p_aload_n dX10_chartAt_5 rfl 0 rfl ?_
    refine p_get (c := 10) (vi (h a0 5)) dX10_chartAt_6 5 tb_232 (by decide) (by decide) (Or.inl rfl) h0 rfl rfl ?_
    refine p_icmp_ge (tgt := 21) (q := x1 ≥ h a0 5) dX10_chartAt_9 (by decide) Iff.rfl (fun hc => ?_) (fun hc => ?_)
    · replace hf := Eq.mp (if_pos hc) hf
      refine p_sub (ls' := []) [] rfl ?_
      exact t_X10_chartAt_21 h0   _ hf
    · replace hf := Eq.mp (if_neg hc) hf
      refine p_aload_n dX10_chartAt_12 rfl 0 rfl ?_
      refine p_lay (c := 10) (tq := 104) (n := 6) dX10_chartAt_13 4 7 tb_231 (by decide) (by decide) h0 (by decide) (by decide) (fun _ => rfl) (vr 104 (a0 + 7) 6) rfl ?_
      refine p_iload_n dX10_chartAt_16 rfl 1 rfl ?_
      obtain ⟨c1, hf⟩ := hf
      refine p_aald0 dX10_chartAt_17 (by omega) c1 ?_
      refine p_goto (tgt := 22) dX10_chartAt_18 (by decide) ?_
      refine p_sub (ls' := []) [] rfl ?_
      exact t_X10_chartAt_22 h0  _ _ hf
theorem ok_X10_chartAt : mOK M_X10_chartAt 1 := ⟨tb_578, tb_1, by decide +kernel⟩
abbrev M_X10_reading : MD := (yX10_reading, cX10_reading, 4, some .boolean)
abbrev rm_X10_reading : Room := { frames := 3, cells := 0, slots := 0, locals := 66 }
def w_X10_reading_18 (K : Int → Hh → Prop) (a0 : Int) (h : Hh) : Prop := K 0 h
set_option maxRecDepth 100000 in
set_option maxHeartbeats 4000000 in
theorem t_X10_reading_18 {G : Gx} {n0 : Int} {K : Int → Hh → Prop} {a0 : Int} (h0 : 0 ≤ a0)  (h : Hh) (hf : w_X10_reading_18 K  a0  h) : PW G M_X10_reading rm_X10_reading 0 0 [] n0 K 18 [] [] [] 0 0 h := by
  unfold w_X10_reading_18 at hf
  refine p_iconst dX10_reading_18 (by decide) ?_
  exact p_zret dX10_reading_19 rfl (by decide) (by decide) (fun _ q => absurd q List.not_mem_nil) (Or.inl rfl) hf
def w_X10_reading (a0 x1 x2 : Int) (h : Hh) (K : Int → Hh → Prop) : Prop := w_X10_chartAt a0 x1 h (fun r1 h2 => if r1 = -1 then (w_X10_reading_18 K  a0  h2) else (0 ≤ r1 ∧ (w_X0_hasMarks r1 x2 h2 (fun r4 h5 => if r4 ≠ 0 then (hb (up h5 a0 9 r1) fun h6 => hb (up h6 a0 10 x2) fun h7 => K 1 h7) else (w_X10_reading_18 K  a0  h5)))))
set_option maxRecDepth 100000 in
set_option maxHeartbeats 4000000 in
theorem t_X10_reading {G : Gx} (a0 x1 x2 : Int) (h : Hh) (K : Int → Hh → Prop) (h0 : 0 ≤ a0) (hf : w_X10_reading a0 x1 x2 h K) : CT G M_X10_reading rm_X10_reading 0 0 [] [vr 10 a0 0, vi x1, vi x2] h K := by
  unfold w_X10_reading at hf
  refine CT.of (ls0 := [(0, vr 10 a0 0), (1, vi x1), (2, vi x2)]) (plainFor_of_name (by decide +kernel)) (by decide +kernel) (Nat.le_of_ble_eq_true rfl) rfl rfl ?_
  refine p_aload_n dX10_reading_0 rfl 0 rfl ?_
  refine p_iload_n dX10_reading_1 rfl 1 rfl ?_
  refine p_callVr (Cn := "ThreadCharts$Chart") dX10_reading_2 M_X10_chartAt rfl [vi x1] (t_X10_chartAt _ _ _ _ h0 hf) ok_X10_chartAt rfl (c := 10) (by decide) h0 rfl tb_575 ⟨tb_577, ts_29⟩ rfl (Nat.le_of_ble_eq_true rfl) ⟨rfl, rfl⟩ ⟨by decide, by decide⟩ ⟨by decide, by decide⟩ (fun r1 h2 hf => ?_)
  refine p_astore_n (ls' := [(3, vr 0 r1 0), (0, vr 10 a0 0), (1, vi x1), (2, vi x2)]) dX10_reading_5 rfl (by decide) rfl ?_
  refine p_aload_n dX10_reading_6 rfl 0 rfl ?_
  refine p_ifnull (tgt := 18) dX10_reading_7 (by decide) (by decide) (fun hc => ?_) (fun hc => ?_)
  · replace hf := Eq.mp (if_pos hc) hf
    refine p_sub (ls' := []) [] rfl ?_
    exact t_X10_reading_18 h0   _ hf
  · replace hf := Eq.mp (if_neg hc) hf
    refine p_aload_n dX10_reading_10 rfl 0 rfl ?_
    refine p_iload_n dX10_reading_11 rfl 3 rfl ?_
    obtain ⟨c3, hf⟩ := hf
    refine p_callVNi dX10_reading_12 M_X0_hasMarks (Or.inr rfl) [vi x2] (t_X0_hasMarks _ _ _ _ c3 hf) ok_X0_hasMarks rfl (c := 0) (by decide) c3 rfl tb_579 ⟨tb_581, ts_30⟩ rfl (Nat.le_of_ble_eq_true rfl) ⟨rfl, rfl⟩ ⟨by decide, by decide⟩ ⟨by decide, by decide⟩ (fun r4 h5 hf => ?_)
    refine p_if_ne (tgt := 20) (q := r4 ≠ 0) dX10_reading_15 (by decide) Iff.rfl (fun hc => ?_) (fun hc => ?_)
    · replace hf := Eq.mp (if_pos hc) hf
      refine p_aload_n dX10_reading_20 rfl 1 rfl ?_
      refine p_aload_n dX10_reading_21 rfl 0 rfl ?_
      refine p_putr (c := 10) (Cn := "ThreadCharts$Chart") dX10_reading_22 9 tb_236 (by decide) (by decide) (Or.inl rfl) h0 rfl rfl (fun _ => by decide) (up h5 a0 9 r1) rfl ?_
      replace hf := hb_e hf
      generalize up h5 a0 9 r1 = h6 at hf ⊢
      refine p_aload_n dX10_reading_25 rfl 1 rfl ?_
      refine p_iload_n dX10_reading_26 rfl 3 rfl ?_
      refine p_puti (c := 10) dX10_reading_27 10 tb_237 (by decide) (by decide) (Or.inl rfl) h0 rfl rfl (fun _ => by decide) (up h6 a0 10 x2) rfl ?_
      replace hf := hb_e hf
      generalize up h6 a0 10 x2 = h7 at hf ⊢
      refine p_iconst dX10_reading_30 (by decide) ?_
      exact p_zret dX10_reading_31 rfl (by decide) (by decide) (fun _ q => absurd q List.not_mem_nil) (Or.inr rfl) hf
    · replace hf := Eq.mp (if_neg hc) hf
      refine p_sub (ls' := []) [] rfl ?_
      exact t_X10_reading_18 h0   _ hf
theorem ok_X10_reading : mOK M_X10_reading 2 := ⟨tb_574, tb_1, by decide +kernel⟩
abbrev M_X10_layAsKnown : MD := (yX10_layAsKnown, cX10_layAsKnown, 8, none)
abbrev rm_X10_layAsKnown : Room := { frames := 3, cells := 0, slots := 0, locals := 65 }
def w_X10_layAsKnown_79 (K : Int → Hh → Prop) (B : Int → Int → Int → Int → Hh → Prop) (X86 : Hh → Prop) (a0 : Int) (v1 v2 v3 v4 s0 s1 s2 s2n : Int) (h : Hh) : Prop := 0 ≤ s2 ∧ (((0 : Int) ≤ s1 ∧ s1 < s2n) ∧ (hb (up h s2 s1 s0) fun h10 => vb (w32 (v4 + 1)) fun z11 => B v1 v2 v3 z11 h10))
set_option maxRecDepth 100000 in
set_option maxHeartbeats 4000000 in
theorem t_X10_layAsKnown_79 {G : Gx} {n0 : Int} {K : Int → Hh → Prop} {B : Int → Int → Int → Int → Hh → Prop} {X86 : Hh → Prop} {a0 : Int} (h0 : 0 ≤ a0) (hB : ∀ (v1 v2 v3 v4 : Int) (h : Hh), B v1 v2 v3 v4 h → PW G M_X10_layAsKnown rm_X10_layAsKnown 0 0 [] n0 K 3 [(0, vr 10 a0 0), (1, vr 0 v1 0), (2, vi v2), (3, vi v3), (4, vi v4)] [] [] 0 0 h) (hX86 : ∀ (h : Hh), X86  h → PW G M_X10_layAsKnown rm_X10_layAsKnown 0 0 [] n0 K 86 [] [] [] 0 0 h)  (v1 v2 v3 v4 s0 s1 s2 s2n : Int) (h : Hh) (hf : w_X10_layAsKnown_79 K B X86 a0 v1 v2 v3 v4 s0 s1 s2 s2n h) : PW G M_X10_layAsKnown rm_X10_layAsKnown 0 0 [] n0 K 79 [(0, vr 10 a0 0), (1, vr 0 v1 0), (2, vi v2), (3, vi v3), (4, vi v4)] [vl s0, vi s1, vr 101 s2 s2n] [] 0 0 h := by
  unfold w_X10_layAsKnown_79 at hf
  obtain ⟨c8, hf⟩ := hf
  obtain ⟨c9, hf⟩ := hf
  refine p_last dX10_layAsKnown_79 c8 c9 ?_
  replace hf := hb_e hf
  generalize up h s2 s1 s0 = h10 at hf ⊢
  refine p_iinc (ls' := [(4, vi (w32 (v4 + 1))), (0, vr 10 a0 0), (1, vr 0 v1 0), (2, vi v2), (3, vi v3)]) dX10_layAsKnown_80 4 rfl (by decide) rfl ?_
  replace hf := vb_e hf
  generalize w32 (v4 + 1) = z11 at hf ⊢
  refine p_goto (tgt := 3) dX10_layAsKnown_83 (by decide) ?_
  refine p_sub (ls' := [(0, vr 10 a0 0), (1, vr 0 v1 0), (2, vi v2), (3, vi v3), (4, vi z11)]) [1, 2, 3, 4, 0] rfl ?_
  exact hB _ _ _ _ _ hf
def w_X10_layAsKnown_3 (K : Int → Hh → Prop) (X86 : Hh → Prop) (a0 : Int) : Nat → Int → Int → Int → Int → Hh → Prop
  | 0, _, _, _, _, _ => False
  | n + 1, v1, v2, v3, v4, h => 0 ≤ v1 ∧ (if v4 ≥ h v1 2 then (X86  h) else (((0 : Int) ≤ v4 ∧ v4 < 4) ∧ (vb (h (v1 + 1) v4) fun z3 => w_X0_markAt v1 v2 v4 h (fun r4 h5 => w_X1_numberOn (a0 + 9) v3 (h5 v1 1) z3 r4 h5 (fun r6 h7 => if r6 ≠ (-2147483648) then (w_X10_layAsKnown_79 K (w_X10_layAsKnown_3 K X86 a0 n) X86 a0 v1 v2 v3 v4 r6 v4 (a0 + 23) 4 h7) else (0 ≤ h7 v1 0 ∧ (w_X7_signedOf (h7 v1 0) z3 r4 h7 (fun r13 h14 => w_X10_layAsKnown_79 K (w_X10_layAsKnown_3 K X86 a0 n) X86 a0 v1 v2 v3 v4 r13 v4 (a0 + 23) 4 h14))))))))
set_option maxRecDepth 100000 in
set_option maxHeartbeats 4000000 in
theorem t_X10_layAsKnown_3 {G : Gx} {n0 : Int} {K : Int → Hh → Prop} {X86 : Hh → Prop} {a0 : Int} (h0 : 0 ≤ a0) (hX86 : ∀ (h : Hh), X86  h → PW G M_X10_layAsKnown rm_X10_layAsKnown 0 0 [] n0 K 86 [] [] [] 0 0 h) : ∀ (n : Nat) (v1 v2 v3 v4 : Int) (h : Hh), w_X10_layAsKnown_3 K X86 a0 n v1 v2 v3 v4 h → PW G M_X10_layAsKnown rm_X10_layAsKnown 0 0 [] n0 K 3 [(0, vr 10 a0 0), (1, vr 0 v1 0), (2, vi v2), (3, vi v3), (4, vi v4)] [] [] 0 0 h := by
  intro n
  induction n with
  | zero =>
    intro v1 v2 v3 v4 h hf
    rw [w_X10_layAsKnown_3] at hf
    exact hf.elim
  | succ n ih =>
    intro v1 v2 v3 v4 h hf
    rw [w_X10_layAsKnown_3] at hf
    refine p_iload dX10_layAsKnown_3 4 rfl ?_
    refine p_aload_n dX10_layAsKnown_5 rfl 1 rfl ?_
    obtain ⟨c1, hf⟩ := hf
    refine p_getN (c := 0) (vi (h v1 2)) dX10_layAsKnown_6 2 tb_497 (by decide) (by decide) (Or.inl rfl) c1 rfl rfl ?_
    refine p_icmp_ge (tgt := 86) (q := v4 ≥ h v1 2) dX10_layAsKnown_9 (by decide) Iff.rfl (fun hc => ?_) (fun hc => ?_)
    · replace hf := Eq.mp (if_pos hc) hf
      refine p_sub (ls' := []) [] rfl ?_
      exact hX86  _ hf
    · replace hf := Eq.mp (if_neg hc) hf
      refine p_aload_n dX10_layAsKnown_12 rfl 1 rfl ?_
      refine p_layN (c := 0) (tq := 100) (n := 4) dX10_layAsKnown_13 5 1 tb_504 (by decide) (by decide) c1 (by decide) (by decide) (fun _ => rfl) (vr 100 (v1 + 1) 4) rfl ?_
      refine p_iload dX10_layAsKnown_16 4 rfl ?_
      obtain ⟨c2, hf⟩ := hf
      refine p_iald dX10_layAsKnown_18 (by omega) c2 ?_
      refine p_istore (ls' := [(5, vi (h (v1 + 1) v4)), (0, vr 10 a0 0), (1, vr 0 v1 0), (2, vi v2), (3, vi v3), (4, vi v4)]) dX10_layAsKnown_19 (by decide) rfl ?_
      replace hf := vb_e hf
      generalize (h (v1 + 1) v4) = z3 at hf ⊢
      refine p_aload_n dX10_layAsKnown_21 rfl 2 rfl ?_
      refine p_iload_n dX10_layAsKnown_22 rfl 3 rfl ?_
      refine p_iload dX10_layAsKnown_23 5 rfl ?_
      refine p_callVNi dX10_layAsKnown_25 M_X0_markAt (Or.inl rfl) [vi v2, vi v4] (t_X0_markAt _ _ _ _ _ c1 hf) ok_X0_markAt rfl (c := 0) (by decide) c1 rfl tb_596 ⟨tb_598, ts_33⟩ rfl (Nat.le_of_ble_eq_true rfl) ⟨rfl, rfl⟩ ⟨by decide, by decide⟩ ⟨by decide, by decide⟩ (fun r4 h5 hf => ?_)
      refine p_istore (ls' := [(6, vi r4), (5, vi z3), (0, vr 10 a0 0), (1, vr 0 v1 0), (2, vi v2), (3, vi v3), (4, vi v4)]) dX10_layAsKnown_28 (by decide) rfl ?_
      refine p_aload_n dX10_layAsKnown_30 rfl 2 rfl ?_
      refine p_lay (c := 10) (tq := 1) (n := 0) dX10_layAsKnown_31 11 9 tb_238 (by decide) (by decide) h0 (by decide) (by decide) (fun _ => rfl) (vr 1 (a0 + 9) 0) rfl ?_
      refine p_iload_n dX10_layAsKnown_34 rfl 5 rfl ?_
      refine p_aload_n dX10_layAsKnown_35 rfl 3 rfl ?_
      refine p_getN (c := 0) (vi (h5 v1 1)) dX10_layAsKnown_36 1 tb_493 (by decide) (by decide) (Or.inl rfl) c1 rfl rfl ?_
      refine p_iload dX10_layAsKnown_39 1 rfl ?_
      refine p_iload dX10_layAsKnown_41 0 rfl ?_
      refine p_callVNi dX10_layAsKnown_43 M_X1_numberOn (Or.inl rfl) [vi v3, vi (h5 v1 1), vi z3, vi r4] (t_X1_numberOn _ _ _ _ _ _ _ (by omega) hf) ok_X1_numberOn rfl (c := 1) (by decide) (by omega) rfl tb_600 ⟨tb_602, ts_34⟩ rfl (Nat.le_of_ble_eq_true rfl) ⟨rfl, rfl⟩ ⟨by decide, by decide⟩ ⟨by decide, by decide⟩ (fun r6 h7 hf => ?_)
      refine p_istore (ls' := [(7, vi r6), (6, vi r4), (5, vi z3), (0, vr 10 a0 0), (1, vr 0 v1 0), (2, vi v2), (3, vi v3), (4, vi v4)]) dX10_layAsKnown_46 (by decide) rfl ?_
      refine p_aload_n dX10_layAsKnown_48 rfl 3 rfl ?_
      refine p_lay (c := 10) (tq := 101) (n := 4) dX10_layAsKnown_49 13 23 tb_240 (by decide) (by decide) h0 (by decide) (by decide) (fun _ => rfl) (vr 101 (a0 + 23) 4) rfl ?_
      refine p_iload dX10_layAsKnown_52 7 rfl ?_
      refine p_iload dX10_layAsKnown_54 0 rfl ?_
      refine p_ldc (z := (-2147483648)) dX10_layAsKnown_56 tb_389 (by decide) ?_
      refine p_icmp_ne (tgt := 76) (q := r6 ≠ (-2147483648)) dX10_layAsKnown_58 (by decide) Iff.rfl (fun hc => ?_) (fun hc => ?_)
      · replace hf := Eq.mp (if_pos hc) hf
        refine p_iload dX10_layAsKnown_76 0 rfl ?_
        refine p_i2l dX10_layAsKnown_78 ?_
        refine p_sub (ls' := [(0, vr 10 a0 0), (1, vr 0 v1 0), (2, vi v2), (3, vi v3), (4, vi v4)]) [3, 4, 5, 6, 7] rfl ?_
        exact t_X10_layAsKnown_79 h0 ih hX86 _ _ _ _ _ _ _ _ _ hf
      · replace hf := Eq.mp (if_neg hc) hf
        refine p_aload_n dX10_layAsKnown_61 rfl 4 rfl ?_
        refine p_getN (c := 0) (vr 7 (h7 v1 0) 0) dX10_layAsKnown_62 0 tb_491 (by decide) (by decide) (Or.inl rfl) c1 rfl rfl ?_
        refine p_iload dX10_layAsKnown_65 2 rfl ?_
        refine p_iload dX10_layAsKnown_67 1 rfl ?_
        obtain ⟨c12, hf⟩ := hf
        refine p_callVNi dX10_layAsKnown_69 M_X7_signedOf (Or.inl rfl) [vi z3, vi r4] (t_X7_signedOf _ _ _ _ _ c12 hf) ok_X7_signedOf rfl (c := 7) (by decide) c12 rfl tb_605 ⟨tb_549, ts_24⟩ rfl (Nat.le_of_ble_eq_true rfl) ⟨rfl, rfl⟩ ⟨by decide, by decide⟩ ⟨by decide, by decide⟩ (fun r13 h14 hf => ?_)
        refine p_i2l dX10_layAsKnown_72 ?_
        refine p_goto (tgt := 79) dX10_layAsKnown_73 (by decide) ?_
        refine p_sub (ls' := [(0, vr 10 a0 0), (1, vr 0 v1 0), (2, vi v2), (3, vi v3), (4, vi v4)]) [3, 4, 5, 6, 7] rfl ?_
        exact t_X10_layAsKnown_79 h0 ih hX86 _ _ _ _ _ _ _ _ _ hf
def w_X10_layAsKnown (a0 x1 x2 x3 : Int) (h : Hh) (K : Int → Hh → Prop) : Prop := w_X10_layAsKnown_3 K (fun h15 => K 0 h15) a0 NF x1 x2 x3 0 h
set_option maxRecDepth 100000 in
set_option maxHeartbeats 4000000 in
theorem t_X10_layAsKnown {G : Gx} (a0 x1 x2 x3 : Int) (h : Hh) (K : Int → Hh → Prop) (h0 : 0 ≤ a0) (hf : w_X10_layAsKnown a0 x1 x2 x3 h K) : CT G M_X10_layAsKnown rm_X10_layAsKnown 0 0 [] [vr 10 a0 0, vr 0 x1 0, vi x2, vi x3] h K := by
  unfold w_X10_layAsKnown at hf
  refine CT.of (ls0 := [(0, vr 10 a0 0), (1, vr 0 x1 0), (2, vi x2), (3, vi x3)]) (plainFor_of_name (by decide +kernel)) (by decide +kernel) (Nat.le_of_ble_eq_true rfl) rfl rfl ?_
  refine p_iconst dX10_layAsKnown_0 (by decide) ?_
  refine p_istore (ls' := [(4, vi 0), (0, vr 10 a0 0), (1, vr 0 x1 0), (2, vi x2), (3, vi x3)]) dX10_layAsKnown_1 (by decide) rfl ?_
  refine p_sub (ls' := [(0, vr 10 a0 0), (1, vr 0 x1 0), (2, vi x2), (3, vi x3), (4, vi 0)]) [1, 2, 3, 4, 0] rfl ?_
  refine t_X10_layAsKnown_3 h0 ?_ NF _ _ _ _ _ hf
  · intro h15 hf
    exact p_vret dX10_layAsKnown_86 rfl (by decide) (by decide) (fun _ q => absurd q List.not_mem_nil) hf
theorem ok_X10_layAsKnown : mOK M_X10_layAsKnown 3 := ⟨tb_595, tb_1, by decide +kernel⟩
abbrev M_X10_readAsKnown : MD := (yX10_readAsKnown, cX10_readAsKnown, 4, some .long)
abbrev rm_X10_readAsKnown : Room := { frames := 4, cells := 0, slots := 0, locals := 99 }
def w_X10_readAsKnown (a0 x1 x2 x3 : Int) (h : Hh) (K : Int → Hh → Prop) : Prop := w_X10_layAsKnown a0 x1 x2 x3 h (fun _ h1 => 0 ≤ x1 ∧ (w_X9_along (a0 + 24) x1 (a0 + 23) 4 (w32 ((h1 x1 3) - 1)) h1 (fun _ h3 => 0 ≤ h3 x1 0 ∧ (K (w64 ((h3 (a0 + 24) 3) + (h3 (h3 x1 0) 1))) h3))))
set_option maxRecDepth 100000 in
set_option maxHeartbeats 4000000 in
theorem t_X10_readAsKnown {G : Gx} (a0 x1 x2 x3 : Int) (h : Hh) (K : Int → Hh → Prop) (h0 : 0 ≤ a0) (hf : w_X10_readAsKnown a0 x1 x2 x3 h K) : CT G M_X10_readAsKnown rm_X10_readAsKnown 0 0 [] [vr 10 a0 0, vr 0 x1 0, vi x2, vi x3] h K := by
  unfold w_X10_readAsKnown at hf
  refine CT.of (ls0 := [(0, vr 10 a0 0), (1, vr 0 x1 0), (2, vi x2), (3, vi x3)]) (plainFor_of_name (by decide +kernel)) (by decide +kernel) (Nat.le_of_ble_eq_true rfl) rfl rfl ?_
  refine p_aload_n dX10_readAsKnown_0 rfl 0 rfl ?_
  refine p_aload_n dX10_readAsKnown_1 rfl 1 rfl ?_
  refine p_iload_n dX10_readAsKnown_2 rfl 2 rfl ?_
  refine p_iload_n dX10_readAsKnown_3 rfl 3 rfl ?_
  refine p_callVv dX10_readAsKnown_4 M_X10_layAsKnown rfl [vr 0 x1 0, vi x2, vi x3] (t_X10_layAsKnown _ _ _ _ _ _ h0 hf) ok_X10_layAsKnown rfl (c := 10) (by decide) h0 rfl tb_592 ⟨tb_594, ts_32⟩ rfl (Nat.le_of_ble_eq_true rfl) ⟨rfl, rfl⟩ ⟨by decide, by decide⟩ ⟨by decide, by decide⟩ (fun _ h1 hf => ?_)
  refine p_aload_n dX10_readAsKnown_7 rfl 0 rfl ?_
  refine p_lay (c := 10) (tq := 9) (n := 0) dX10_readAsKnown_8 14 24 tb_241 (by decide) (by decide) h0 (by decide) (by decide) (fun _ => rfl) (vr 9 (a0 + 24) 0) rfl ?_
  refine p_aload_n dX10_readAsKnown_11 rfl 1 rfl ?_
  refine p_aload_n dX10_readAsKnown_12 rfl 0 rfl ?_
  refine p_lay (c := 10) (tq := 101) (n := 4) dX10_readAsKnown_13 13 23 tb_240 (by decide) (by decide) h0 (by decide) (by decide) (fun _ => rfl) (vr 101 (a0 + 23) 4) rfl ?_
  refine p_aload_n dX10_readAsKnown_16 rfl 1 rfl ?_
  obtain ⟨c2, hf⟩ := hf
  refine p_getN (c := 0) (vi (h1 x1 3)) dX10_readAsKnown_17 3 tb_500 (by decide) (by decide) (Or.inl rfl) c2 rfl rfl ?_
  refine p_iconst dX10_readAsKnown_20 (by decide) ?_
  refine p_isub dX10_readAsKnown_21 ?_
  refine p_callVNv dX10_readAsKnown_22 M_X9_along rfl [vr 0 x1 0, vr 101 (a0 + 23) 4, vi (w32 ((h1 x1 3) - 1))] (t_X9_along _ _ _ _ _ _ _ (by omega) hf) ok_X9_along rfl (c := 9) (by decide) (by omega) rfl tb_606 ⟨tb_608, ts_35⟩ rfl (Nat.le_of_ble_eq_true rfl) ⟨rfl, rfl⟩ ⟨by decide, by decide⟩ ⟨by decide, by decide⟩ (fun _ h3 hf => ?_)
  refine p_aload_n dX10_readAsKnown_25 rfl 0 rfl ?_
  refine p_lay (c := 10) (tq := 9) (n := 0) dX10_readAsKnown_26 14 24 tb_241 (by decide) (by decide) h0 (by decide) (by decide) (fun _ => rfl) (vr 9 (a0 + 24) 0) rfl ?_
  refine p_getN (c := 9) (vl (h3 (a0 + 24) 3)) dX10_readAsKnown_29 3 tb_159 (by decide) (by decide) (Or.inl rfl) (by omega) rfl rfl ?_
  refine p_aload_n dX10_readAsKnown_32 rfl 1 rfl ?_
  refine p_getN (c := 0) (vr 7 (h3 x1 0) 0) dX10_readAsKnown_33 0 tb_491 (by decide) (by decide) (Or.inl rfl) c2 rfl rfl ?_
  obtain ⟨c4, hf⟩ := hf
  refine p_getN (c := 7) (vi (h3 (h3 x1 0) 1)) dX10_readAsKnown_36 1 tb_357 (by decide) (by decide) (Or.inl rfl) c4 rfl rfl ?_
  refine p_i2l dX10_readAsKnown_39 ?_
  refine p_ladd dX10_readAsKnown_40 ?_
  exact p_lret dX10_readAsKnown_41 rfl (by decide) (by decide) (fun _ q => absurd q List.not_mem_nil) hf
theorem ok_X10_readAsKnown : mOK M_X10_readAsKnown 3 := ⟨tb_591, tb_1, by decide +kernel⟩
abbrev M_X10_layAsCut : MD := (yX10_layAsCut, cX10_layAsCut, 4, none)
abbrev rm_X10_layAsCut : Room := { frames := 3, cells := 0, slots := 0, locals := 65 }
def w_X10_layAsCut_2 (K : Int → Hh → Prop) (X42 : Hh → Prop) (a0 : Int) : Nat → Int → Int → Int → Hh → Prop
  | 0, _, _, _, _ => False
  | n + 1, v1, v2, v3, h => 0 ≤ v1 ∧ (if v3 ≥ h v1 2 then (X42  h) else (((0 : Int) ≤ v3 ∧ v3 < 4) ∧ (w_X0_markAt v1 v2 v3 h (fun r3 h4 => 0 ≤ h v1 0 ∧ (w_X7_signedOf (h v1 0) (h (v1 + 1) v3) r3 h4 (fun r6 h7 => hb (up h7 (a0 + 23) v3 r6) fun h8 => vb (w32 (v3 + 1)) fun z9 => w_X10_layAsCut_2 K X42 a0 n v1 v2 z9 h8))))))
set_option maxRecDepth 100000 in
set_option maxHeartbeats 4000000 in
theorem t_X10_layAsCut_2 {G : Gx} {n0 : Int} {K : Int → Hh → Prop} {X42 : Hh → Prop} {a0 : Int} (h0 : 0 ≤ a0) (hX42 : ∀ (h : Hh), X42  h → PW G M_X10_layAsCut rm_X10_layAsCut 0 0 [] n0 K 42 [] [] [] 0 0 h) : ∀ (n : Nat) (v1 v2 v3 : Int) (h : Hh), w_X10_layAsCut_2 K X42 a0 n v1 v2 v3 h → PW G M_X10_layAsCut rm_X10_layAsCut 0 0 [] n0 K 2 [(0, vr 10 a0 0), (1, vr 0 v1 0), (2, vi v2), (3, vi v3)] [] [] 0 0 h := by
  intro n
  induction n with
  | zero =>
    intro v1 v2 v3 h hf
    rw [w_X10_layAsCut_2] at hf
    exact hf.elim
  | succ n ih =>
    intro v1 v2 v3 h hf
    rw [w_X10_layAsCut_2] at hf
    refine p_iload_n dX10_layAsCut_2 rfl 3 rfl ?_
    refine p_aload_n dX10_layAsCut_3 rfl 1 rfl ?_
    obtain ⟨c1, hf⟩ := hf
    refine p_getN (c := 0) (vi (h v1 2)) dX10_layAsCut_4 2 tb_497 (by decide) (by decide) (Or.inl rfl) c1 rfl rfl ?_
    refine p_icmp_ge (tgt := 42) (q := v3 ≥ h v1 2) dX10_layAsCut_7 (by decide) Iff.rfl (fun hc => ?_) (fun hc => ?_)
    · replace hf := Eq.mp (if_pos hc) hf
      refine p_sub (ls' := []) [] rfl ?_
      exact hX42  _ hf
    · replace hf := Eq.mp (if_neg hc) hf
      refine p_aload_n dX10_layAsCut_10 rfl 0 rfl ?_
      refine p_lay (c := 10) (tq := 101) (n := 4) dX10_layAsCut_11 13 23 tb_240 (by decide) (by decide) h0 (by decide) (by decide) (fun _ => rfl) (vr 101 (a0 + 23) 4) rfl ?_
      refine p_iload_n dX10_layAsCut_14 rfl 3 rfl ?_
      refine p_aload_n dX10_layAsCut_15 rfl 1 rfl ?_
      refine p_getN (c := 0) (vr 7 (h v1 0) 0) dX10_layAsCut_16 0 tb_491 (by decide) (by decide) (Or.inl rfl) c1 rfl rfl ?_
      refine p_aload_n dX10_layAsCut_19 rfl 1 rfl ?_
      refine p_layN (c := 0) (tq := 100) (n := 4) dX10_layAsCut_20 5 1 tb_504 (by decide) (by decide) c1 (by decide) (by decide) (fun _ => rfl) (vr 100 (v1 + 1) 4) rfl ?_
      refine p_iload_n dX10_layAsCut_23 rfl 3 rfl ?_
      obtain ⟨c2, hf⟩ := hf
      refine p_iald dX10_layAsCut_24 (by omega) c2 ?_
      refine p_aload_n dX10_layAsCut_25 rfl 1 rfl ?_
      refine p_iload_n dX10_layAsCut_26 rfl 2 rfl ?_
      refine p_iload_n dX10_layAsCut_27 rfl 3 rfl ?_
      refine p_callVNi dX10_layAsCut_28 M_X0_markAt (Or.inl rfl) [vi v2, vi v3] (t_X0_markAt _ _ _ _ _ c1 hf) ok_X0_markAt rfl (c := 0) (by decide) c1 rfl tb_596 ⟨tb_598, ts_33⟩ rfl (Nat.le_of_ble_eq_true rfl) ⟨rfl, rfl⟩ ⟨by decide, by decide⟩ ⟨by decide, by decide⟩ (fun r3 h4 hf => ?_)
      obtain ⟨c5, hf⟩ := hf
      refine p_callVNi dX10_layAsCut_31 M_X7_signedOf (Or.inl rfl) [vi (h (v1 + 1) v3), vi r3] (t_X7_signedOf _ _ _ _ _ c5 hf) ok_X7_signedOf rfl (c := 7) (by decide) c5 rfl tb_605 ⟨tb_549, ts_24⟩ rfl (Nat.le_of_ble_eq_true rfl) ⟨rfl, rfl⟩ ⟨by decide, by decide⟩ ⟨by decide, by decide⟩ (fun r6 h7 hf => ?_)
      refine p_i2l dX10_layAsCut_34 ?_
      refine p_last dX10_layAsCut_35 (by omega) c2 ?_
      replace hf := hb_e hf
      generalize up h7 (a0 + 23) v3 r6 = h8 at hf ⊢
      refine p_iinc (ls' := [(3, vi (w32 (v3 + 1))), (0, vr 10 a0 0), (1, vr 0 v1 0), (2, vi v2)]) dX10_layAsCut_36 3 rfl (by decide) rfl ?_
      replace hf := vb_e hf
      generalize w32 (v3 + 1) = z9 at hf ⊢
      refine p_goto (tgt := 2) dX10_layAsCut_39 (by decide) ?_
      refine p_sub (ls' := [(0, vr 10 a0 0), (1, vr 0 v1 0), (2, vi v2), (3, vi z9)]) [1, 2, 3, 0] rfl ?_
      exact ih _ _ _ _ hf
def w_X10_layAsCut (a0 x1 x2 : Int) (h : Hh) (K : Int → Hh → Prop) : Prop := w_X10_layAsCut_2 K (fun h10 => K 0 h10) a0 NF x1 x2 0 h
set_option maxRecDepth 100000 in
set_option maxHeartbeats 4000000 in
theorem t_X10_layAsCut {G : Gx} (a0 x1 x2 : Int) (h : Hh) (K : Int → Hh → Prop) (h0 : 0 ≤ a0) (hf : w_X10_layAsCut a0 x1 x2 h K) : CT G M_X10_layAsCut rm_X10_layAsCut 0 0 [] [vr 10 a0 0, vr 0 x1 0, vi x2] h K := by
  unfold w_X10_layAsCut at hf
  refine CT.of (ls0 := [(0, vr 10 a0 0), (1, vr 0 x1 0), (2, vi x2)]) (plainFor_of_name (by decide +kernel)) (by decide +kernel) (Nat.le_of_ble_eq_true rfl) rfl rfl ?_
  refine p_iconst dX10_layAsCut_0 (by decide) ?_
  refine p_istore_n (ls' := [(3, vi 0), (0, vr 10 a0 0), (1, vr 0 x1 0), (2, vi x2)]) dX10_layAsCut_1 rfl (by decide) rfl ?_
  refine p_sub (ls' := [(0, vr 10 a0 0), (1, vr 0 x1 0), (2, vi x2), (3, vi 0)]) [1, 2, 3, 0] rfl ?_
  refine t_X10_layAsCut_2 h0 ?_ NF _ _ _ _ hf
  · intro h10 hf
    exact p_vret dX10_layAsCut_42 rfl (by decide) (by decide) (fun _ q => absurd q List.not_mem_nil) hf
theorem ok_X10_layAsCut : mOK M_X10_layAsCut 2 := ⟨tb_651, tb_1, by decide +kernel⟩
abbrev M_X10_exactSum : MD := (yX10_exactSum, cX10_exactSum, 5, some .int)
abbrev rm_X10_exactSum : Room := { frames := 4, cells := 0, slots := 0, locals := 88 }
def w_X10_exactSum_21 (K : Int → Hh → Prop) (X46 : Int → Hh → Prop) (a0 : Int) : Nat → Int → Int → Int → Hh → Prop
  | 0, _, _, _, _ => False
  | n + 1, v1, v2, v4, h => 0 ≤ v1 ∧ (if v4 ≥ h v1 2 then (X46 v2 h) else (((0 : Int) ≤ v4 ∧ v4 < 4) ∧ (vb (w64 (v2 + (h (a0 + 23) v4))) fun z7 => vb (w32 (v4 + 1)) fun z8 => w_X10_exactSum_21 K X46 a0 n v1 z7 z8 h)))
set_option maxRecDepth 100000 in
set_option maxHeartbeats 4000000 in
theorem t_X10_exactSum_21 {G : Gx} {n0 : Int} {K : Int → Hh → Prop} {X46 : Int → Hh → Prop} {a0 : Int} (h0 : 0 ≤ a0) (hX46 : ∀ (v2 : Int) (h : Hh), X46 v2 h → PW G M_X10_exactSum rm_X10_exactSum 0 0 [] n0 K 46 [(2, vl v2)] [] [] 0 0 h) : ∀ (n : Nat) (v1 v2 v4 : Int) (h : Hh), w_X10_exactSum_21 K X46 a0 n v1 v2 v4 h → PW G M_X10_exactSum rm_X10_exactSum 0 0 [] n0 K 21 [(0, vr 10 a0 0), (1, vr 0 v1 0), (2, vl v2), (4, vi v4)] [] [] 0 0 h := by
  intro n
  induction n with
  | zero =>
    intro v1 v2 v4 h hf
    rw [w_X10_exactSum_21] at hf
    exact hf.elim
  | succ n ih =>
    intro v1 v2 v4 h hf
    rw [w_X10_exactSum_21] at hf
    refine p_iload dX10_exactSum_21 3 rfl ?_
    refine p_aload_n dX10_exactSum_23 rfl 1 rfl ?_
    obtain ⟨c5, hf⟩ := hf
    refine p_getN (c := 0) (vi (h v1 2)) dX10_exactSum_24 2 tb_497 (by decide) (by decide) (Or.inl rfl) c5 rfl rfl ?_
    refine p_icmp_ge (tgt := 46) (q := v4 ≥ h v1 2) dX10_exactSum_27 (by decide) Iff.rfl (fun hc => ?_) (fun hc => ?_)
    · replace hf := Eq.mp (if_pos hc) hf
      refine p_sub (ls' := [(2, vl v2)]) [2] rfl ?_
      exact hX46 _ _ hf
    · replace hf := Eq.mp (if_neg hc) hf
      refine p_lload_n dX10_exactSum_30 rfl 2 rfl ?_
      refine p_aload_n dX10_exactSum_31 rfl 0 rfl ?_
      refine p_lay (c := 10) (tq := 101) (n := 4) dX10_exactSum_32 13 23 tb_240 (by decide) (by decide) h0 (by decide) (by decide) (fun _ => rfl) (vr 101 (a0 + 23) 4) rfl ?_
      refine p_iload dX10_exactSum_35 3 rfl ?_
      obtain ⟨c6, hf⟩ := hf
      refine p_lald dX10_exactSum_37 (by omega) c6 ?_
      refine p_ladd dX10_exactSum_38 ?_
      refine p_lstore_n (ls' := [(2, vl (w64 (v2 + (h (a0 + 23) v4)))), (0, vr 10 a0 0), (1, vr 0 v1 0), (4, vi v4)]) dX10_exactSum_39 rfl (by decide) rfl ?_
      replace hf := vb_e hf
      generalize (w64 (v2 + (h (a0 + 23) v4))) = z7 at hf ⊢
      refine p_iinc (ls' := [(4, vi (w32 (v4 + 1))), (2, vl z7), (0, vr 10 a0 0), (1, vr 0 v1 0)]) dX10_exactSum_40 3 rfl (by decide) rfl ?_
      replace hf := vb_e hf
      generalize w32 (v4 + 1) = z8 at hf ⊢
      refine p_goto (tgt := 21) dX10_exactSum_43 (by decide) ?_
      refine p_sub (ls' := [(0, vr 10 a0 0), (1, vr 0 v1 0), (2, vl z7), (4, vi z8)]) [2, 3, 1, 0] rfl ?_
      exact ih _ _ _ _ hf
def w_X10_exactSum (a0 x1 : Int) (h : Hh) (K : Int → Hh → Prop) : Prop := w_X10_layAsCut a0 x1 (h a0 10) h (fun _ h1 => 0 ≤ x1 ∧ (0 ≤ h1 x1 0 ∧ (vb (h1 (h1 x1 0) 1) fun z4 => w_X10_exactSum_21 K (fun u10 h9 => K (w32 u10) h9) a0 NF x1 z4 0 h1)))
set_option maxRecDepth 100000 in
set_option maxHeartbeats 4000000 in
theorem t_X10_exactSum {G : Gx} (a0 x1 : Int) (h : Hh) (K : Int → Hh → Prop) (h0 : 0 ≤ a0) (hf : w_X10_exactSum a0 x1 h K) : CT G M_X10_exactSum rm_X10_exactSum 0 0 [] [vr 10 a0 0, vr 0 x1 0] h K := by
  unfold w_X10_exactSum at hf
  refine CT.of (ls0 := [(0, vr 10 a0 0), (1, vr 0 x1 0)]) (plainFor_of_name (by decide +kernel)) (by decide +kernel) (Nat.le_of_ble_eq_true rfl) rfl rfl ?_
  refine p_aload_n dX10_exactSum_0 rfl 0 rfl ?_
  refine p_aload_n dX10_exactSum_1 rfl 1 rfl ?_
  refine p_aload_n dX10_exactSum_2 rfl 0 rfl ?_
  refine p_get (c := 10) (vi (h a0 10)) dX10_exactSum_3 10 tb_237 (by decide) (by decide) (Or.inl rfl) h0 rfl rfl ?_
  refine p_callVv dX10_exactSum_6 M_X10_layAsCut rfl [vr 0 x1 0, vi (h a0 10)] (t_X10_layAsCut _ _ _ _ _ h0 hf) ok_X10_layAsCut rfl (c := 10) (by decide) h0 rfl tb_648 ⟨tb_650, ts_43⟩ rfl (Nat.le_of_ble_eq_true rfl) ⟨rfl, rfl⟩ ⟨by decide, by decide⟩ ⟨by decide, by decide⟩ (fun _ h1 hf => ?_)
  refine p_aload_n dX10_exactSum_9 rfl 1 rfl ?_
  obtain ⟨c2, hf⟩ := hf
  refine p_getN (c := 0) (vr 7 (h1 x1 0) 0) dX10_exactSum_10 0 tb_491 (by decide) (by decide) (Or.inl rfl) c2 rfl rfl ?_
  obtain ⟨c3, hf⟩ := hf
  refine p_getN (c := 7) (vi (h1 (h1 x1 0) 1)) dX10_exactSum_13 1 tb_357 (by decide) (by decide) (Or.inl rfl) c3 rfl rfl ?_
  refine p_i2l dX10_exactSum_16 ?_
  refine p_lstore_n (ls' := [(2, vl (h1 (h1 x1 0) 1)), (0, vr 10 a0 0), (1, vr 0 x1 0)]) dX10_exactSum_17 rfl (by decide) rfl ?_
  replace hf := vb_e hf
  generalize (h1 (h1 x1 0) 1) = z4 at hf ⊢
  refine p_iconst dX10_exactSum_18 (by decide) ?_
  refine p_istore (ls' := [(4, vi 0), (2, vl z4), (0, vr 10 a0 0), (1, vr 0 x1 0)]) dX10_exactSum_19 (by decide) rfl ?_
  refine p_sub (ls' := [(0, vr 10 a0 0), (1, vr 0 x1 0), (2, vl z4), (4, vi 0)]) [2, 3, 1, 0] rfl ?_
  refine t_X10_exactSum_21 h0 ?_ NF _ _ _ _ hf
  · intro u10 h9 hf
    refine p_lload_n dX10_exactSum_46 rfl 0 rfl ?_
    refine p_l2i dX10_exactSum_47 ?_
    exact p_iret dX10_exactSum_48 rfl (by decide) (by decide) (fun _ q => absurd q List.not_mem_nil) hf
theorem ok_X10_exactSum : mOK M_X10_exactSum 1 := ⟨tb_647, tb_1, by decide +kernel⟩
abbrev M_X10_read : MD := (yX10_read, cX10_read, 4, some .int)
abbrev rm_X10_read : Room := { frames := 5, cells := 0, slots := 0, locals := 122 }
def w_X10_read_21 (K : Int → Hh → Prop) (a0 : Int) (h : Hh) : Prop := K (-2147483648) h
set_option maxRecDepth 100000 in
set_option maxHeartbeats 4000000 in
theorem t_X10_read_21 {G : Gx} {n0 : Int} {K : Int → Hh → Prop} {a0 : Int} (h0 : 0 ≤ a0)  (h : Hh) (hf : w_X10_read_21 K  a0  h) : PW G M_X10_read rm_X10_read 0 0 [] n0 K 21 [] [] [] 0 0 h := by
  unfold w_X10_read_21 at hf
  refine p_ldc (z := (-2147483648)) dX10_read_21 tb_389 (by decide) ?_
  exact p_iret dX10_read_23 rfl (by decide) (by decide) (fun _ q => absurd q List.not_mem_nil) hf
def w_X10_read (a0 x1 x2 : Int) (h : Hh) (K : Int → Hh → Prop) : Prop := if h a0 9 = -1 then (w_X10_read_21 K  a0  h) else (if x1 < 0 then (w_X10_read_21 K  a0  h) else (if x1 ≤ h a0 8 then (if x2 ≠ 0 then (if x2 ≠ 1 then (if x2 ≠ 2 then (K (-2147483648) h) else (w_X10_exactSum a0 (h a0 9) h (fun r1 h2 => K r1 h2))) else (0 ≤ h a0 9 ∧ (w_X10_readAsKnown a0 (h a0 9) (h a0 10) x1 h (fun r4 h5 => 0 ≤ h (h a0 9) 0 ∧ (w_X7_tenthsOf (h (h a0 9) 0) r4 h5 (fun r7 h8 => K r7 h8)))))) else (w_X10_readAsKnown a0 (h a0 9) (h a0 10) x1 h (fun r9 h10 => K (w32 r9) h10))) else (w_X10_read_21 K  a0  h)))
set_option maxRecDepth 100000 in
set_option maxHeartbeats 4000000 in
theorem t_X10_read {G : Gx} (a0 x1 x2 : Int) (h : Hh) (K : Int → Hh → Prop) (h0 : 0 ≤ a0) (hf : w_X10_read a0 x1 x2 h K) : CT G M_X10_read rm_X10_read 0 0 [] [vr 10 a0 0, vi x1, vi x2] h K := by
  unfold w_X10_read at hf
  refine CT.of (ls0 := [(0, vr 10 a0 0), (1, vi x1), (2, vi x2)]) (plainFor_of_name (by decide +kernel)) (by decide +kernel) (Nat.le_of_ble_eq_true rfl) rfl rfl ?_
  refine p_aload_n dX10_read_0 rfl 0 rfl ?_
  refine p_get (c := 10) (vr 0 (h a0 9) 0) dX10_read_1 9 tb_236 (by decide) (by decide) (Or.inl rfl) h0 rfl rfl ?_
  refine p_astore_n (ls' := [(3, vr 0 (h a0 9) 0), (0, vr 10 a0 0), (1, vi x1), (2, vi x2)]) dX10_read_4 rfl (by decide) rfl ?_
  refine p_aload_n dX10_read_5 rfl 0 rfl ?_
  refine p_ifnull (tgt := 21) dX10_read_6 (by decide) (by decide) (fun hc => ?_) (fun hc => ?_)
  · replace hf := Eq.mp (if_pos hc) hf
    refine p_sub (ls' := []) [] rfl ?_
    exact t_X10_read_21 h0   _ hf
  · replace hf := Eq.mp (if_neg hc) hf
    refine p_iload_n dX10_read_9 rfl 2 rfl ?_
    refine p_if_lt (tgt := 21) (q := x1 < 0) dX10_read_10 (by decide) Iff.rfl (fun hc => ?_) (fun hc => ?_)
    · replace hf := Eq.mp (if_pos hc) hf
      refine p_sub (ls' := []) [] rfl ?_
      exact t_X10_read_21 h0   _ hf
    · replace hf := Eq.mp (if_neg hc) hf
      refine p_iload_n dX10_read_13 rfl 2 rfl ?_
      refine p_aload_n dX10_read_14 rfl 1 rfl ?_
      refine p_get (c := 10) (vi (h a0 8)) dX10_read_15 8 tb_235 (by decide) (by decide) (Or.inl rfl) h0 rfl rfl ?_
      refine p_icmp_le (tgt := 24) (q := x1 ≤ h a0 8) dX10_read_18 (by decide) Iff.rfl (fun hc => ?_) (fun hc => ?_)
      · replace hf := Eq.mp (if_pos hc) hf
        refine p_iload_n dX10_read_24 rfl 3 rfl ?_
        refine p_if_ne (tgt := 40) (q := x2 ≠ 0) dX10_read_25 (by decide) Iff.rfl (fun hc => ?_) (fun hc => ?_)
        · replace hf := Eq.mp (if_pos hc) hf
          refine p_iload_n dX10_read_40 rfl 3 rfl ?_
          refine p_iconst dX10_read_41 (by decide) ?_
          refine p_icmp_ne (tgt := 63) (q := x2 ≠ 1) dX10_read_42 (by decide) Iff.rfl (fun hc => ?_) (fun hc => ?_)
          · replace hf := Eq.mp (if_pos hc) hf
            refine p_iload_n dX10_read_63 rfl 3 rfl ?_
            refine p_iconst dX10_read_64 (by decide) ?_
            refine p_icmp_ne (tgt := 74) (q := x2 ≠ 2) dX10_read_65 (by decide) Iff.rfl (fun hc => ?_) (fun hc => ?_)
            · replace hf := Eq.mp (if_pos hc) hf
              refine p_ldc (z := (-2147483648)) dX10_read_74 tb_389 (by decide) ?_
              exact p_iret dX10_read_76 rfl (by decide) (by decide) (fun _ q => absurd q List.not_mem_nil) hf
            · replace hf := Eq.mp (if_neg hc) hf
              refine p_aload_n dX10_read_68 rfl 1 rfl ?_
              refine p_aload_n dX10_read_69 rfl 0 rfl ?_
              refine p_callVi dX10_read_70 M_X10_exactSum (Or.inl rfl) [vr 0 (h a0 9) 0] (t_X10_exactSum _ _ _ _ h0 hf) ok_X10_exactSum rfl (c := 10) (by decide) h0 rfl tb_644 ⟨tb_646, ts_42⟩ rfl (Nat.le_of_ble_eq_true rfl) ⟨rfl, rfl⟩ ⟨by decide, by decide⟩ ⟨by decide, by decide⟩ (fun r1 h2 hf => ?_)
              exact p_iret dX10_read_73 rfl (by decide) (by decide) (fun _ q => absurd q List.not_mem_nil) hf
          · replace hf := Eq.mp (if_neg hc) hf
            refine p_aload_n dX10_read_45 rfl 0 rfl ?_
            obtain ⟨c3, hf⟩ := hf
            refine p_getN (c := 0) (vr 7 (h (h a0 9) 0) 0) dX10_read_46 0 tb_491 (by decide) (by decide) (Or.inl rfl) c3 rfl rfl ?_
            refine p_aload_n dX10_read_49 rfl 1 rfl ?_
            refine p_aload_n dX10_read_50 rfl 0 rfl ?_
            refine p_aload_n dX10_read_51 rfl 1 rfl ?_
            refine p_get (c := 10) (vi (h a0 10)) dX10_read_52 10 tb_237 (by decide) (by decide) (Or.inl rfl) h0 rfl rfl ?_
            refine p_iload_n dX10_read_55 rfl 2 rfl ?_
            refine p_callVl dX10_read_56 M_X10_readAsKnown rfl [vr 0 (h a0 9) 0, vi (h a0 10), vi x1] (t_X10_readAsKnown _ _ _ _ _ _ h0 hf) ok_X10_readAsKnown rfl (c := 10) (by decide) h0 rfl tb_588 ⟨tb_590, ts_31⟩ rfl (Nat.le_of_ble_eq_true rfl) ⟨rfl, rfl⟩ ⟨by decide, by decide⟩ ⟨by decide, by decide⟩ (fun r4 h5 hf => ?_)
            obtain ⟨c6, hf⟩ := hf
            refine p_callVNi dX10_read_59 M_X7_tenthsOf (Or.inl rfl) [vl r4] (t_X7_tenthsOf _ _ _ _ c6 hf) ok_X7_tenthsOf rfl (c := 7) (by decide) c6 rfl tb_639 ⟨tb_641, ts_41⟩ rfl (Nat.le_of_ble_eq_true rfl) ⟨rfl, rfl⟩ ⟨by decide, by decide⟩ ⟨by decide, by decide⟩ (fun r7 h8 hf => ?_)
            exact p_iret dX10_read_62 rfl (by decide) (by decide) (fun _ q => absurd q List.not_mem_nil) hf
        · replace hf := Eq.mp (if_neg hc) hf
          refine p_aload_n dX10_read_28 rfl 1 rfl ?_
          refine p_aload_n dX10_read_29 rfl 0 rfl ?_
          refine p_aload_n dX10_read_30 rfl 1 rfl ?_
          refine p_get (c := 10) (vi (h a0 10)) dX10_read_31 10 tb_237 (by decide) (by decide) (Or.inl rfl) h0 rfl rfl ?_
          refine p_iload_n dX10_read_34 rfl 2 rfl ?_
          refine p_callVl dX10_read_35 M_X10_readAsKnown rfl [vr 0 (h a0 9) 0, vi (h a0 10), vi x1] (t_X10_readAsKnown _ _ _ _ _ _ h0 hf) ok_X10_readAsKnown rfl (c := 10) (by decide) h0 rfl tb_588 ⟨tb_590, ts_31⟩ rfl (Nat.le_of_ble_eq_true rfl) ⟨rfl, rfl⟩ ⟨by decide, by decide⟩ ⟨by decide, by decide⟩ (fun r9 h10 hf => ?_)
          refine p_l2i dX10_read_38 ?_
          exact p_iret dX10_read_39 rfl (by decide) (by decide) (fun _ q => absurd q List.not_mem_nil) hf
      · replace hf := Eq.mp (if_neg hc) hf
        refine p_sub (ls' := []) [] rfl ?_
        exact t_X10_read_21 h0   _ hf
theorem ok_X10_read : mOK M_X10_read 2 := ⟨tb_587, tb_1, by decide +kernel⟩
abbrev M_X10_lead : MD := (yX10_lead, cX10_lead, 4, some .int)
abbrev rm_X10_lead : Room := { frames := 4, cells := 0, slots := 0, locals := 99 }
def w_X10_lead_17 (K : Int → Hh → Prop) (a0 : Int) (h : Hh) : Prop := K (-2147483648) h
set_option maxRecDepth 100000 in
set_option maxHeartbeats 4000000 in
theorem t_X10_lead_17 {G : Gx} {n0 : Int} {K : Int → Hh → Prop} {a0 : Int} (h0 : 0 ≤ a0)  (h : Hh) (hf : w_X10_lead_17 K  a0  h) : PW G M_X10_lead rm_X10_lead 0 0 [] n0 K 17 [] [] [] 0 0 h := by
  unfold w_X10_lead_17 at hf
  refine p_ldc (z := (-2147483648)) dX10_lead_17 tb_389 (by decide) ?_
  exact p_iret dX10_lead_19 rfl (by decide) (by decide) (fun _ q => absurd q List.not_mem_nil) hf
def w_X10_lead (a0 x1 x2 : Int) (h : Hh) (K : Int → Hh → Prop) : Prop := if h a0 9 = -1 then (w_X10_lead_17 K  a0  h) else (0 ≤ h a0 9 ∧ (w_X0_hasPage (h a0 9) x1 h (fun r2 h3 => if r2 ≠ 0 then (w_X10_layAsKnown a0 (h a0 9) (h3 a0 10) (h3 a0 8) h3 (fun _ h4 => w_X9_along (a0 + 24) (h a0 9) (a0 + 23) 4 x1 h4 (fun _ h5 => if x2 = 0 then (K (w32 (h5 (a0 + 24) 0)) h5) else (if x2 = 1 then (K (w32 (h5 (a0 + 24) 1)) h5) else (if x2 = 2 then (K (w32 (h5 (a0 + 24) 2)) h5) else (if x2 = 3 then (K (w32 (h5 (a0 + 24) 3)) h5) else (K (-2147483648) h5))))))) else (w_X10_lead_17 K  a0  h3))))
set_option maxRecDepth 100000 in
set_option maxHeartbeats 4000000 in
theorem t_X10_lead {G : Gx} (a0 x1 x2 : Int) (h : Hh) (K : Int → Hh → Prop) (h0 : 0 ≤ a0) (hf : w_X10_lead a0 x1 x2 h K) : CT G M_X10_lead rm_X10_lead 0 0 [] [vr 10 a0 0, vi x1, vi x2] h K := by
  unfold w_X10_lead at hf
  refine CT.of (ls0 := [(0, vr 10 a0 0), (1, vi x1), (2, vi x2)]) (plainFor_of_name (by decide +kernel)) (by decide +kernel) (Nat.le_of_ble_eq_true rfl) rfl rfl ?_
  refine p_aload_n dX10_lead_0 rfl 0 rfl ?_
  refine p_get (c := 10) (vr 0 (h a0 9) 0) dX10_lead_1 9 tb_236 (by decide) (by decide) (Or.inl rfl) h0 rfl rfl ?_
  refine p_astore_n (ls' := [(3, vr 0 (h a0 9) 0), (0, vr 10 a0 0), (1, vi x1), (2, vi x2)]) dX10_lead_4 rfl (by decide) rfl ?_
  refine p_aload_n dX10_lead_5 rfl 0 rfl ?_
  refine p_ifnull (tgt := 17) dX10_lead_6 (by decide) (by decide) (fun hc => ?_) (fun hc => ?_)
  · replace hf := Eq.mp (if_pos hc) hf
    refine p_sub (ls' := []) [] rfl ?_
    exact t_X10_lead_17 h0   _ hf
  · replace hf := Eq.mp (if_neg hc) hf
    refine p_aload_n dX10_lead_9 rfl 0 rfl ?_
    refine p_iload_n dX10_lead_10 rfl 2 rfl ?_
    obtain ⟨c1, hf⟩ := hf
    refine p_callVNi dX10_lead_11 M_X0_hasPage (Or.inr rfl) [vi x1] (t_X0_hasPage _ _ _ _ c1 hf) ok_X0_hasPage rfl (c := 0) (by decide) c1 rfl tb_656 ⟨tb_569, ts_28⟩ rfl (Nat.le_of_ble_eq_true rfl) ⟨rfl, rfl⟩ ⟨by decide, by decide⟩ ⟨by decide, by decide⟩ (fun r2 h3 hf => ?_)
    refine p_if_ne (tgt := 20) (q := r2 ≠ 0) dX10_lead_14 (by decide) Iff.rfl (fun hc => ?_) (fun hc => ?_)
    · replace hf := Eq.mp (if_pos hc) hf
      refine p_aload_n dX10_lead_20 rfl 1 rfl ?_
      refine p_aload_n dX10_lead_21 rfl 0 rfl ?_
      refine p_aload_n dX10_lead_22 rfl 1 rfl ?_
      refine p_get (c := 10) (vi (h3 a0 10)) dX10_lead_23 10 tb_237 (by decide) (by decide) (Or.inl rfl) h0 rfl rfl ?_
      refine p_aload_n dX10_lead_26 rfl 1 rfl ?_
      refine p_get (c := 10) (vi (h3 a0 8)) dX10_lead_27 8 tb_235 (by decide) (by decide) (Or.inl rfl) h0 rfl rfl ?_
      refine p_callVv dX10_lead_30 M_X10_layAsKnown rfl [vr 0 (h a0 9) 0, vi (h3 a0 10), vi (h3 a0 8)] (t_X10_layAsKnown _ _ _ _ _ _ h0 hf) ok_X10_layAsKnown rfl (c := 10) (by decide) h0 rfl tb_592 ⟨tb_594, ts_32⟩ rfl (Nat.le_of_ble_eq_true rfl) ⟨rfl, rfl⟩ ⟨by decide, by decide⟩ ⟨by decide, by decide⟩ (fun _ h4 hf => ?_)
      refine p_aload_n dX10_lead_33 rfl 1 rfl ?_
      refine p_lay (c := 10) (tq := 9) (n := 0) dX10_lead_34 14 24 tb_241 (by decide) (by decide) h0 (by decide) (by decide) (fun _ => rfl) (vr 9 (a0 + 24) 0) rfl ?_
      refine p_aload_n dX10_lead_37 rfl 0 rfl ?_
      refine p_aload_n dX10_lead_38 rfl 1 rfl ?_
      refine p_lay (c := 10) (tq := 101) (n := 4) dX10_lead_39 13 23 tb_240 (by decide) (by decide) h0 (by decide) (by decide) (fun _ => rfl) (vr 101 (a0 + 23) 4) rfl ?_
      refine p_iload_n dX10_lead_42 rfl 2 rfl ?_
      refine p_callVNv dX10_lead_43 M_X9_along rfl [vr 0 (h a0 9) 0, vr 101 (a0 + 23) 4, vi x1] (t_X9_along _ _ _ _ _ _ _ (by omega) hf) ok_X9_along rfl (c := 9) (by decide) (by omega) rfl tb_606 ⟨tb_608, ts_35⟩ rfl (Nat.le_of_ble_eq_true rfl) ⟨rfl, rfl⟩ ⟨by decide, by decide⟩ ⟨by decide, by decide⟩ (fun _ h5 hf => ?_)
      refine p_iload_n dX10_lead_46 rfl 3 rfl ?_
      by_cases hc : x2 = 0
      · replace hf := Eq.mp (if_pos hc) hf
        refine p_tsIn (tgt := 76) (off := 29) dX10_lead_47 (by omega) (by omega) (by rw [hc]; rfl) (by decide) ?_
        refine p_aload_n dX10_lead_76 rfl 1 rfl ?_
        refine p_lay (c := 10) (tq := 9) (n := 0) dX10_lead_77 14 24 tb_241 (by decide) (by decide) h0 (by decide) (by decide) (fun _ => rfl) (vr 9 (a0 + 24) 0) rfl ?_
        refine p_getN (c := 9) (vl (h5 (a0 + 24) 0)) dX10_lead_80 0 tb_153 (by decide) (by decide) (Or.inl rfl) (by omega) rfl rfl ?_
        refine p_l2i dX10_lead_83 ?_
        exact p_iret dX10_lead_84 rfl (by decide) (by decide) (fun _ q => absurd q List.not_mem_nil) hf
      replace hf := Eq.mp (if_neg hc) hf
      have hc47_0 := hc
      clear hc
      by_cases hc : x2 = 1
      · replace hf := Eq.mp (if_pos hc) hf
        refine p_tsIn (tgt := 85) (off := 38) dX10_lead_47 (by omega) (by omega) (by rw [hc]; rfl) (by decide) ?_
        refine p_aload_n dX10_lead_85 rfl 1 rfl ?_
        refine p_lay (c := 10) (tq := 9) (n := 0) dX10_lead_86 14 24 tb_241 (by decide) (by decide) h0 (by decide) (by decide) (fun _ => rfl) (vr 9 (a0 + 24) 0) rfl ?_
        refine p_getN (c := 9) (vl (h5 (a0 + 24) 1)) dX10_lead_89 1 tb_155 (by decide) (by decide) (Or.inl rfl) (by omega) rfl rfl ?_
        refine p_l2i dX10_lead_92 ?_
        exact p_iret dX10_lead_93 rfl (by decide) (by decide) (fun _ q => absurd q List.not_mem_nil) hf
      replace hf := Eq.mp (if_neg hc) hf
      have hc47_1 := hc
      clear hc
      by_cases hc : x2 = 2
      · replace hf := Eq.mp (if_pos hc) hf
        refine p_tsIn (tgt := 94) (off := 47) dX10_lead_47 (by omega) (by omega) (by rw [hc]; rfl) (by decide) ?_
        refine p_aload_n dX10_lead_94 rfl 1 rfl ?_
        refine p_lay (c := 10) (tq := 9) (n := 0) dX10_lead_95 14 24 tb_241 (by decide) (by decide) h0 (by decide) (by decide) (fun _ => rfl) (vr 9 (a0 + 24) 0) rfl ?_
        refine p_getN (c := 9) (vl (h5 (a0 + 24) 2)) dX10_lead_98 2 tb_157 (by decide) (by decide) (Or.inl rfl) (by omega) rfl rfl ?_
        refine p_l2i dX10_lead_101 ?_
        exact p_iret dX10_lead_102 rfl (by decide) (by decide) (fun _ q => absurd q List.not_mem_nil) hf
      replace hf := Eq.mp (if_neg hc) hf
      have hc47_2 := hc
      clear hc
      by_cases hc : x2 = 3
      · replace hf := Eq.mp (if_pos hc) hf
        refine p_tsIn (tgt := 103) (off := 56) dX10_lead_47 (by omega) (by omega) (by rw [hc]; rfl) (by decide) ?_
        refine p_aload_n dX10_lead_103 rfl 1 rfl ?_
        refine p_lay (c := 10) (tq := 9) (n := 0) dX10_lead_104 14 24 tb_241 (by decide) (by decide) h0 (by decide) (by decide) (fun _ => rfl) (vr 9 (a0 + 24) 0) rfl ?_
        refine p_getN (c := 9) (vl (h5 (a0 + 24) 3)) dX10_lead_107 3 tb_159 (by decide) (by decide) (Or.inl rfl) (by omega) rfl rfl ?_
        refine p_l2i dX10_lead_110 ?_
        exact p_iret dX10_lead_111 rfl (by decide) (by decide) (fun _ q => absurd q List.not_mem_nil) hf
      replace hf := Eq.mp (if_neg hc) hf
      have hc47_3 := hc
      clear hc
      refine p_tsOut (tgt := 112) dX10_lead_47 (by omega) (by decide) ?_
      refine p_ldc (z := (-2147483648)) dX10_lead_112 tb_389 (by decide) ?_
      exact p_iret dX10_lead_114 rfl (by decide) (by decide) (fun _ q => absurd q List.not_mem_nil) hf
    · replace hf := Eq.mp (if_neg hc) hf
      refine p_sub (ls' := []) [] rfl ?_
      exact t_X10_lead_17 h0   _ hf
theorem ok_X10_lead : mOK M_X10_lead 2 := ⟨tb_655, tb_1, by decide +kernel⟩
abbrev M_X10_isEye : MD := (yX10_isEye, cX10_isEye, 1, some .boolean)
abbrev rm_X10_isEye : Room := { frames := 0, cells := 0, slots := 0, locals := 0 }
def w_X10_isEye_15 (K : Int → Hh → Prop) (s0 : Int) (h : Hh) : Prop := (s0 = 0 ∨ s0 = 1) ∧ (K s0 h)
set_option maxRecDepth 100000 in
set_option maxHeartbeats 4000000 in
theorem t_X10_isEye_15 {G : Gx} {n0 : Int} {K : Int → Hh → Prop}  (s0 : Int) (h : Hh) (hf : w_X10_isEye_15 K   s0 h) : PW G M_X10_isEye rm_X10_isEye 0 0 [] n0 K 15 [] [vi s0] [] 0 0 h := by
  unfold w_X10_isEye_15 at hf
  obtain ⟨c1, hf⟩ := hf
  exact p_zret dX10_isEye_15 rfl (by decide) (by decide) (fun _ q => absurd q List.not_mem_nil) c1 hf
def w_X10_isEye_14 (K : Int → Hh → Prop) (h : Hh) : Prop := w_X10_isEye_15 K   0 h
set_option maxRecDepth 100000 in
set_option maxHeartbeats 4000000 in
theorem t_X10_isEye_14 {G : Gx} {n0 : Int} {K : Int → Hh → Prop}  (h : Hh) (hf : w_X10_isEye_14 K    h) : PW G M_X10_isEye rm_X10_isEye 0 0 [] n0 K 14 [] [] [] 0 0 h := by
  unfold w_X10_isEye_14 at hf
  refine p_iconst dX10_isEye_14 (by decide) ?_
  exact t_X10_isEye_15  _ _ hf
def w_X10_isEye (x0 : Int) (h : Hh) (K : Int → Hh → Prop) : Prop := if x0 < 0 then (w_X10_isEye_14 K    h) else (if x0 > 50 then (w_X10_isEye_14 K    h) else (w_X10_isEye_15 K   1 h))
set_option maxRecDepth 100000 in
set_option maxHeartbeats 4000000 in
theorem t_X10_isEye {G : Gx} (x0 : Int) (h : Hh) (K : Int → Hh → Prop) (hf : w_X10_isEye x0 h K) : CT G M_X10_isEye rm_X10_isEye 0 0 [] [vi x0] h K := by
  unfold w_X10_isEye at hf
  refine CT.of (ls0 := [(0, vi x0)]) (plainFor_of_name (by decide +kernel)) (by decide +kernel) (Nat.le_of_ble_eq_true rfl) rfl rfl ?_
  refine p_iload_n dX10_isEye_0 rfl 0 rfl ?_
  refine p_if_lt (tgt := 14) (q := x0 < 0) dX10_isEye_1 (by decide) Iff.rfl (fun hc => ?_) (fun hc => ?_)
  · replace hf := Eq.mp (if_pos hc) hf
    refine p_sub (ls' := []) [] rfl ?_
    exact t_X10_isEye_14   _ hf
  · replace hf := Eq.mp (if_neg hc) hf
    refine p_iload_n dX10_isEye_4 rfl 0 rfl ?_
    refine p_bipush dX10_isEye_5 (by decide) (by decide) ?_
    refine p_icmp_gt (tgt := 14) (q := x0 > 50) dX10_isEye_7 (by decide) Iff.rfl (fun hc => ?_) (fun hc => ?_)
    · replace hf := Eq.mp (if_pos hc) hf
      refine p_sub (ls' := []) [] rfl ?_
      exact t_X10_isEye_14   _ hf
    · replace hf := Eq.mp (if_neg hc) hf
      refine p_iconst dX10_isEye_10 (by decide) ?_
      refine p_goto (tgt := 15) dX10_isEye_11 (by decide) ?_
      refine p_sub (ls' := []) [] rfl ?_
      exact t_X10_isEye_15  _ _ hf
theorem ok_X10_isEye : mOK M_X10_isEye 1 := ⟨tb_663, tb_1, by decide +kernel⟩
abbrev M_X10_span : MD := (yX10_span, cX10_span, 4, some .int)
abbrev rm_X10_span : Room := { frames := 4, cells := 0, slots := 0, locals := 100 }
def w_X10_span_16 (K : Int → Hh → Prop) (a0 : Int) (h : Hh) : Prop := K (-2147483648) h
set_option maxRecDepth 100000 in
set_option maxHeartbeats 4000000 in
theorem t_X10_span_16 {G : Gx} {n0 : Int} {K : Int → Hh → Prop} {a0 : Int} (h0 : 0 ≤ a0)  (h : Hh) (hf : w_X10_span_16 K  a0  h) : PW G M_X10_span rm_X10_span 0 0 [] n0 K 16 [] [] [] 0 0 h := by
  unfold w_X10_span_16 at hf
  refine p_ldc (z := (-2147483648)) dX10_span_16 tb_389 (by decide) ?_
  exact p_iret dX10_span_18 rfl (by decide) (by decide) (fun _ q => absurd q List.not_mem_nil) hf
def w_X10_span_43 (K : Int → Hh → Prop) (a0 : Int) (s0 s1 s1n s2 : Int) (h : Hh) : Prop := 0 ≤ s2 ∧ (w_X0_lastSumOnFlat s2 s1 s1n s0 h (fun r5 h6 => K (w32 r5) h6))
set_option maxRecDepth 100000 in
set_option maxHeartbeats 4000000 in
theorem t_X10_span_43 {G : Gx} {n0 : Int} {K : Int → Hh → Prop} {a0 : Int} (h0 : 0 ≤ a0)  (s0 s1 s1n s2 : Int) (h : Hh) (hf : w_X10_span_43 K  a0 s0 s1 s1n s2 h) : PW G M_X10_span rm_X10_span 0 0 [] n0 K 43 [] [vi s0, vr 101 s1 s1n, vr 0 s2 0] [] 0 0 h := by
  unfold w_X10_span_43 at hf
  obtain ⟨c4, hf⟩ := hf
  refine p_callVNl dX10_span_43 M_X0_lastSumOnFlat rfl [vr 101 s1 s1n, vi s0] (t_X0_lastSumOnFlat _ _ _ _ _ _ c4 hf) ok_X0_lastSumOnFlat rfl (c := 0) (by decide) c4 rfl tb_664 ⟨tb_666, ts_44⟩ rfl (Nat.le_of_ble_eq_true rfl) ⟨rfl, rfl⟩ ⟨by decide, by decide⟩ ⟨by decide, by decide⟩ (fun r5 h6 hf => ?_)
  refine p_l2i dX10_span_46 ?_
  exact p_iret dX10_span_47 rfl (by decide) (by decide) (fun _ q => absurd q List.not_mem_nil) hf
def w_X10_span (a0 x1 x2 : Int) (h : Hh) (K : Int → Hh → Prop) : Prop := if h a0 9 = -1 then (w_X10_span_16 K  a0  h) else (w_X10_isEye x1 h (fun r1 h2 => if r1 ≠ 0 then (w_X10_layAsCut a0 (h a0 9) (h2 a0 10) h2 (fun _ h3 => if x2 = 0 then (w_X10_span_43 K  a0 (w32 (-x1)) (a0 + 23) 4 (h a0 9) h3) else (w_X10_span_43 K  a0 x1 (a0 + 23) 4 (h a0 9) h3))) else (w_X10_span_16 K  a0  h2)))
set_option maxRecDepth 100000 in
set_option maxHeartbeats 4000000 in
theorem t_X10_span {G : Gx} (a0 x1 x2 : Int) (h : Hh) (K : Int → Hh → Prop) (h0 : 0 ≤ a0) (hf : w_X10_span a0 x1 x2 h K) : CT G M_X10_span rm_X10_span 0 0 [] [vr 10 a0 0, vi x1, vi x2] h K := by
  unfold w_X10_span at hf
  refine CT.of (ls0 := [(0, vr 10 a0 0), (1, vi x1), (2, vi x2)]) (plainFor_of_name (by decide +kernel)) (by decide +kernel) (Nat.le_of_ble_eq_true rfl) rfl rfl ?_
  refine p_aload_n dX10_span_0 rfl 0 rfl ?_
  refine p_get (c := 10) (vr 0 (h a0 9) 0) dX10_span_1 9 tb_236 (by decide) (by decide) (Or.inl rfl) h0 rfl rfl ?_
  refine p_astore_n (ls' := [(3, vr 0 (h a0 9) 0), (0, vr 10 a0 0), (1, vi x1), (2, vi x2)]) dX10_span_4 rfl (by decide) rfl ?_
  refine p_aload_n dX10_span_5 rfl 0 rfl ?_
  refine p_ifnull (tgt := 16) dX10_span_6 (by decide) (by decide) (fun hc => ?_) (fun hc => ?_)
  · replace hf := Eq.mp (if_pos hc) hf
    refine p_sub (ls' := []) [] rfl ?_
    exact t_X10_span_16 h0   _ hf
  · replace hf := Eq.mp (if_neg hc) hf
    refine p_iload_n dX10_span_9 rfl 2 rfl ?_
    refine p_callSi dX10_span_10 M_X10_isEye (Or.inr rfl) [vi x1] (t_X10_isEye _ _ _ hf) ok_X10_isEye rfl tb_661 tb_662 rfl (Nat.le_of_ble_eq_true rfl) ⟨rfl, rfl⟩ ⟨by decide, by decide⟩ ⟨by decide, by decide⟩ (fun r1 h2 hf => ?_)
    refine p_if_ne (tgt := 19) (q := r1 ≠ 0) dX10_span_13 (by decide) Iff.rfl (fun hc => ?_) (fun hc => ?_)
    · replace hf := Eq.mp (if_pos hc) hf
      refine p_aload_n dX10_span_19 rfl 1 rfl ?_
      refine p_aload_n dX10_span_20 rfl 0 rfl ?_
      refine p_aload_n dX10_span_21 rfl 1 rfl ?_
      refine p_get (c := 10) (vi (h2 a0 10)) dX10_span_22 10 tb_237 (by decide) (by decide) (Or.inl rfl) h0 rfl rfl ?_
      refine p_callVv dX10_span_25 M_X10_layAsCut rfl [vr 0 (h a0 9) 0, vi (h2 a0 10)] (t_X10_layAsCut _ _ _ _ _ h0 hf) ok_X10_layAsCut rfl (c := 10) (by decide) h0 rfl tb_648 ⟨tb_650, ts_43⟩ rfl (Nat.le_of_ble_eq_true rfl) ⟨rfl, rfl⟩ ⟨by decide, by decide⟩ ⟨by decide, by decide⟩ (fun _ h3 hf => ?_)
      refine p_aload_n dX10_span_28 rfl 0 rfl ?_
      refine p_aload_n dX10_span_29 rfl 1 rfl ?_
      refine p_lay (c := 10) (tq := 101) (n := 4) dX10_span_30 13 23 tb_240 (by decide) (by decide) h0 (by decide) (by decide) (fun _ => rfl) (vr 101 (a0 + 23) 4) rfl ?_
      refine p_iload_n dX10_span_33 rfl 3 rfl ?_
      refine p_if_eq (tgt := 41) (q := x2 = 0) dX10_span_34 (by decide) Iff.rfl (fun hc => ?_) (fun hc => ?_)
      · replace hf := Eq.mp (if_pos hc) hf
        refine p_iload_n dX10_span_41 rfl 2 rfl ?_
        refine p_ineg dX10_span_42 ?_
        refine p_sub (ls' := []) [] rfl ?_
        exact t_X10_span_43 h0  _ _ _ _ _ hf
      · replace hf := Eq.mp (if_neg hc) hf
        refine p_iload_n dX10_span_37 rfl 2 rfl ?_
        refine p_goto (tgt := 43) dX10_span_38 (by decide) ?_
        refine p_sub (ls' := []) [] rfl ?_
        exact t_X10_span_43 h0  _ _ _ _ _ hf
    · replace hf := Eq.mp (if_neg hc) hf
      refine p_sub (ls' := []) [] rfl ?_
      exact t_X10_span_16 h0   _ hf
theorem ok_X10_span : mOK M_X10_span 2 := ⟨tb_660, tb_1, by decide +kernel⟩
abbrev M_X10_page : MD := (yX10_page, cX10_page, 5, some .int)
abbrev rm_X10_page : Room := { frames := 5, cells := 0, slots := 0, locals := 119 }
def w_X10_page_21 (K : Int → Hh → Prop) (a0 : Int) (h : Hh) : Prop := K (-1) h
set_option maxRecDepth 100000 in
set_option maxHeartbeats 4000000 in
theorem t_X10_page_21 {G : Gx} {n0 : Int} {K : Int → Hh → Prop} {a0 : Int} (h0 : 0 ≤ a0)  (h : Hh) (hf : w_X10_page_21 K  a0  h) : PW G M_X10_page rm_X10_page 0 0 [] n0 K 21 [] [] [] 0 0 h := by
  unfold w_X10_page_21 at hf
  refine p_iconst dX10_page_21 (by decide) ?_
  exact p_iret dX10_page_22 rfl (by decide) (by decide) (fun _ q => absurd q List.not_mem_nil) hf
def w_X10_page (a0 x1 x2 x3 : Int) (h : Hh) (K : Int → Hh → Prop) : Prop := w_X10_chartAt a0 x1 h (fun r1 h2 => if r1 = -1 then (w_X10_page_21 K  a0  h2) else (0 ≤ r1 ∧ (w_X0_hasPage r1 x2 h2 (fun r4 h5 => if r4 ≠ 0 then (if x3 ≠ 0 then (if x3 ≠ 1 then (K (-1) h5) else (((0 : Int) ≤ x2 ∧ x2 < 3) ∧ (w_X0_tallWith r1 x2 (h5 (r1 + 2) x2) (h5 (r1 + 3) x2) h5 (fun r7 h8 => K (w32 r7) h8)))) else (w_X0_midOf r1 x2 h5 (fun r9 h10 => K (w32 r9) h10))) else (w_X10_page_21 K  a0  h5)))))
set_option maxRecDepth 100000 in
set_option maxHeartbeats 4000000 in
theorem t_X10_page {G : Gx} (a0 x1 x2 x3 : Int) (h : Hh) (K : Int → Hh → Prop) (h0 : 0 ≤ a0) (hf : w_X10_page a0 x1 x2 x3 h K) : CT G M_X10_page rm_X10_page 0 0 [] [vr 10 a0 0, vi x1, vi x2, vi x3] h K := by
  unfold w_X10_page at hf
  refine CT.of (ls0 := [(0, vr 10 a0 0), (1, vi x1), (2, vi x2), (3, vi x3)]) (plainFor_of_name (by decide +kernel)) (by decide +kernel) (Nat.le_of_ble_eq_true rfl) rfl rfl ?_
  refine p_aload_n dX10_page_0 rfl 0 rfl ?_
  refine p_iload_n dX10_page_1 rfl 1 rfl ?_
  refine p_callVr (Cn := "ThreadCharts$Chart") dX10_page_2 M_X10_chartAt rfl [vi x1] (t_X10_chartAt _ _ _ _ h0 hf) ok_X10_chartAt rfl (c := 10) (by decide) h0 rfl tb_575 ⟨tb_577, ts_29⟩ rfl (Nat.le_of_ble_eq_true rfl) ⟨rfl, rfl⟩ ⟨by decide, by decide⟩ ⟨by decide, by decide⟩ (fun r1 h2 hf => ?_)
  refine p_astore (ls' := [(4, vr 0 r1 0), (0, vr 10 a0 0), (1, vi x1), (2, vi x2), (3, vi x3)]) dX10_page_5 (by decide) rfl ?_
  refine p_aload dX10_page_7 0 rfl ?_
  refine p_ifnull (tgt := 21) dX10_page_9 (by decide) (by decide) (fun hc => ?_) (fun hc => ?_)
  · replace hf := Eq.mp (if_pos hc) hf
    refine p_sub (ls' := []) [] rfl ?_
    exact t_X10_page_21 h0   _ hf
  · replace hf := Eq.mp (if_neg hc) hf
    refine p_aload dX10_page_12 0 rfl ?_
    refine p_iload_n dX10_page_14 rfl 3 rfl ?_
    obtain ⟨c3, hf⟩ := hf
    refine p_callVNi dX10_page_15 M_X0_hasPage (Or.inr rfl) [vi x2] (t_X0_hasPage _ _ _ _ c3 hf) ok_X0_hasPage rfl (c := 0) (by decide) c3 rfl tb_656 ⟨tb_569, ts_28⟩ rfl (Nat.le_of_ble_eq_true rfl) ⟨rfl, rfl⟩ ⟨by decide, by decide⟩ ⟨by decide, by decide⟩ (fun r4 h5 hf => ?_)
    refine p_if_ne (tgt := 23) (q := r4 ≠ 0) dX10_page_18 (by decide) Iff.rfl (fun hc => ?_) (fun hc => ?_)
    · replace hf := Eq.mp (if_pos hc) hf
      refine p_iload_n dX10_page_23 rfl 4 rfl ?_
      refine p_if_ne (tgt := 35) (q := x3 ≠ 0) dX10_page_24 (by decide) Iff.rfl (fun hc => ?_) (fun hc => ?_)
      · replace hf := Eq.mp (if_pos hc) hf
        refine p_iload_n dX10_page_35 rfl 4 rfl ?_
        refine p_iconst dX10_page_36 (by decide) ?_
        refine p_icmp_ne (tgt := 62) (q := x3 ≠ 1) dX10_page_37 (by decide) Iff.rfl (fun hc => ?_) (fun hc => ?_)
        · replace hf := Eq.mp (if_pos hc) hf
          refine p_iconst dX10_page_62 (by decide) ?_
          exact p_iret dX10_page_63 rfl (by decide) (by decide) (fun _ q => absurd q List.not_mem_nil) hf
        · replace hf := Eq.mp (if_neg hc) hf
          refine p_aload dX10_page_40 0 rfl ?_
          refine p_iload_n dX10_page_42 rfl 3 rfl ?_
          refine p_aload dX10_page_43 0 rfl ?_
          refine p_layN (c := 0) (tq := 100) (n := 3) dX10_page_45 6 2 tb_507 (by decide) (by decide) c3 (by decide) (by decide) (fun _ => rfl) (vr 100 (r1 + 2) 3) rfl ?_
          refine p_iload_n dX10_page_48 rfl 3 rfl ?_
          obtain ⟨c6, hf⟩ := hf
          refine p_iald dX10_page_49 (by omega) c6 ?_
          refine p_aload dX10_page_50 0 rfl ?_
          refine p_layN (c := 0) (tq := 100) (n := 3) dX10_page_52 7 3 tb_510 (by decide) (by decide) c3 (by decide) (by decide) (fun _ => rfl) (vr 100 (r1 + 3) 3) rfl ?_
          refine p_iload_n dX10_page_55 rfl 3 rfl ?_
          refine p_iald dX10_page_56 (by omega) c6 ?_
          refine p_callVNl dX10_page_57 M_X0_tallWith rfl [vi x2, vi (h5 (r1 + 2) x2), vi (h5 (r1 + 3) x2)] (t_X0_tallWith _ _ _ _ _ _ c3 hf) ok_X0_tallWith rfl (c := 0) (by decide) c3 rfl tb_675 ⟨tb_677, ts_45⟩ rfl (Nat.le_of_ble_eq_true rfl) ⟨rfl, rfl⟩ ⟨by decide, by decide⟩ ⟨by decide, by decide⟩ (fun r7 h8 hf => ?_)
          refine p_l2i dX10_page_60 ?_
          exact p_iret dX10_page_61 rfl (by decide) (by decide) (fun _ q => absurd q List.not_mem_nil) hf
      · replace hf := Eq.mp (if_neg hc) hf
        refine p_aload dX10_page_27 0 rfl ?_
        refine p_iload_n dX10_page_29 rfl 3 rfl ?_
        refine p_callVNl dX10_page_30 M_X0_midOf rfl [vi x2] (t_X0_midOf _ _ _ _ c3 hf) ok_X0_midOf rfl (c := 0) (by decide) c3 rfl tb_674 ⟨tb_621, ts_38⟩ rfl (Nat.le_of_ble_eq_true rfl) ⟨rfl, rfl⟩ ⟨by decide, by decide⟩ ⟨by decide, by decide⟩ (fun r9 h10 hf => ?_)
        refine p_l2i dX10_page_33 ?_
        exact p_iret dX10_page_34 rfl (by decide) (by decide) (fun _ q => absurd q List.not_mem_nil) hf
    · replace hf := Eq.mp (if_neg hc) hf
      refine p_sub (ls' := []) [] rfl ?_
      exact t_X10_page_21 h0   _ hf
theorem ok_X10_page : mOK M_X10_page 3 := ⟨tb_673, tb_1, by decide +kernel⟩
