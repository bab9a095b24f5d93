abbrev M_X10_span : MD := (yX10_span, cX10_span, 4, some .int)
abbrev rm_X10_span : Room := { frames := 4, cells := 0, slots := 0, locals := 100 }
def w_X10_span_16 (K : Int → Hh → Prop) (a0 : Int) (h : Hh) : Prop := K (-2147483648) h
set_option maxRecDepth 100000 in
set_option maxHeartbeats 4000000 in
theorem t_X10_span_16 {G : Gx} {n0 : Int} {K : Int → Hh → Prop} {a0 : Int} (h0 : 0 ≤ a0)  (h : Hh) (hf : w_X10_span_16 K  a0  h) : PW G M_X10_span rm_X10_span 0 0 [] n0 K 16 [] [] [] 0 0 h := by
  unfold w_X10_span_16 at hf
  refine p_ldc (z := (-2147483648)) dX10_span_16 tb_389 (by decide) ?_
  exact p_iret dX10_span_18 rfl (by decide) (by decide) (fun _ h => absurd h List.not_mem_nil) hf
def w_X10_span_43 (K : Int → Hh → Prop) (a0 : Int) (s0 s1 s1n s2 : Int) (h : Hh) : Prop := 0 ≤ s2 ∧ (w_X0_lastSumOnFlat s2 s1 s1n s0 h (fun r5 h6 => K (w32 r5) h6))
set_option maxRecDepth 100000 in
set_option maxHeartbeats 4000000 in
theorem t_X10_span_43 {G : Gx} {n0 : Int} {K : Int → Hh → Prop} {a0 : Int} (h0 : 0 ≤ a0)  (s0 s1 s1n s2 : Int) (h : Hh) (hf : w_X10_span_43 K  a0 s0 s1 s1n s2 h) : PW G M_X10_span rm_X10_span 0 0 [] n0 K 43 [] [vi s0, vr 101 s1 s1n, vr 0 s2 0] [] 0 0 h := by
  unfold w_X10_span_43 at hf
  obtain ⟨c4, hf⟩ := hf
  refine p_callVNl dX10_span_43 M_X0_lastSumOnFlat rfl [vr 101 s1 s1n, vi s0] (t_X0_lastSumOnFlat _ _ _ _ _ _ c4 hf) ok_X0_lastSumOnFlat rfl (c := 0) (by decide) c4 rfl tb_664 ⟨tb_666, ts_44⟩ rfl (Nat.le_of_ble_eq_true rfl) ⟨rfl, rfl⟩ ⟨by decide, by decide⟩ ⟨by decide, by decide⟩ (fun r5 h6 hf => ?_)
  refine p_l2i dX10_span_46 ?_
  exact p_iret dX10_span_47 rfl (by decide) (by decide) (fun _ h => absurd h List.not_mem_nil) hf
def w_X10_span (a0 x1 x2 : Int) (h : Hh) (K : Int → Hh → Prop) : Prop := if h a0 9 = -1 then (w_X10_span_16 K  a0  h) else (w_X10_isEye x1 h (fun r1 h2 => if r1 ≠ 0 then (w_X10_layAsCut a0 (h a0 9) (h2 a0 10) h2 (fun _ h3 => if x2 = 0 then (w_X10_span_43 K  a0 (w32 (-x1)) (a0 + 23) 4 (h a0 9) h3) else (w_X10_span_43 K  a0 x1 (a0 + 23) 4 (h a0 9) h3))) else (w_X10_span_16 K  a0  h2)))
set_option maxRecDepth 100000 in
set_option maxHeartbeats 4000000 in
theorem t_X10_span {G : Gx} (a0 x1 x2 : Int) (h : Hh) (K : Int → Hh → Prop) (h0 : 0 ≤ a0) (hf : w_X10_span a0 x1 x2 h K) : CT G M_X10_span rm_X10_span 0 0 [] [vr 10 a0 0, vi x1, vi x2] h K := by
  unfold w_X10_span at hf
  refine CT.of (ls0 := [(0, vr 10 a0 0), (1, vi x1), (2, vi x2)]) (plainFor_of_name (by decide +kernel)) (by decide +kernel) (Nat.le_of_ble_eq_true rfl) rfl rfl ?_
  refine p_aload_n dX10_span_0 rfl 0 rfl ?_
  refine p_get (c := 10) (vr 0 (h a0 9) 0) dX10_span_1 9 tb_236 (by decide) (by decide) (Or.inl rfl) h0 rfl rfl ?_
  refine p_astore_n (ls' := [(3, vr 0 (h a0 9) 0), (0, vr 10 a0 0), (1, vi x1), (2, vi x2)]) dX10_span_4 rfl (by decide) rfl ?_
  refine p_aload_n dX10_span_5 rfl 0 rfl ?_
  refine p_ifnull (tgt := 16) dX10_span_6 (by decide) (by decide) (fun hc => ?_) (fun hc => ?_)
  · replace hf := Eq.mp (if_pos hc) hf
    refine p_sub (ls' := []) [] rfl ?_
    exact t_X10_span_16 h0   _ hf
  · replace hf := Eq.mp (if_neg hc) hf
    refine p_iload_n dX10_span_9 rfl 2 rfl ?_
    refine p_callSi dX10_span_10 M_X10_isEye (Or.inr rfl) [vi x1] (t_X10_isEye _ _ _ hf) ok_X10_isEye rfl tb_661 tb_662 rfl (Nat.le_of_ble_eq_true rfl) ⟨rfl, rfl⟩ ⟨by decide, by decide⟩ ⟨by decide, by decide⟩ (fun r1 h2 hf => ?_)
    refine p_if_ne (tgt := 19) (q := r1 ≠ 0) dX10_span_13 (by decide) Iff.rfl (fun hc => ?_) (fun hc => ?_)
    · replace hf := Eq.mp (if_pos hc) hf
      refine p_aload_n dX10_span_19 rfl 1 rfl ?_
      refine p_aload_n dX10_span_20 rfl 0 rfl ?_
      refine p_aload_n dX10_span_21 rfl 1 rfl ?_
      refine p_get (c := 10) (vi (h2 a0 10)) dX10_span_22 10 tb_237 (by decide) (by decide) (Or.inl rfl) h0 rfl rfl ?_
      refine p_callVv dX10_span_25 M_X10_layAsCut rfl [vr 0 (h a0 9) 0, vi (h2 a0 10)] (t_X10_layAsCut _ _ _ _ _ h0 hf) ok_X10_layAsCut rfl (c := 10) (by decide) h0 rfl tb_648 ⟨tb_650, ts_43⟩ rfl (Nat.le_of_ble_eq_true rfl) ⟨rfl, rfl⟩ ⟨by decide, by decide⟩ ⟨by decide, by decide⟩ (fun _ h3 hf => ?_)
      refine p_aload_n dX10_span_28 rfl 0 rfl ?_
      refine p_aload_n dX10_span_29 rfl 1 rfl ?_
      refine p_lay (c := 10) (tq := 101) (n := 4) dX10_span_30 13 23 tb_240 (by decide) (by decide) h0 (by decide) (by decide) (fun _ => rfl) (vr 101 (a0 + 23) 4) rfl ?_
      refine p_iload_n dX10_span_33 rfl 3 rfl ?_
      refine p_if_eq (tgt := 41) (q := x2 = 0) dX10_span_34 (by decide) Iff.rfl (fun hc => ?_) (fun hc => ?_)
      · replace hf := Eq.mp (if_pos hc) hf
        refine p_iload_n dX10_span_41 rfl 2 rfl ?_
        refine p_ineg dX10_span_42 ?_
        refine p_sub (ls' := []) [] rfl ?_
        exact t_X10_span_43 h0  _ _ _ _ _ hf
      · replace hf := Eq.mp (if_neg hc) hf
        refine p_iload_n dX10_span_37 rfl 2 rfl ?_
        refine p_goto (tgt := 43) dX10_span_38 (by decide) ?_
        refine p_sub (ls' := []) [] rfl ?_
        exact t_X10_span_43 h0  _ _ _ _ _ hf
    · replace hf := Eq.mp (if_neg hc) hf
      refine p_sub (ls' := []) [] rfl ?_
      exact t_X10_span_16 h0   _ hf
theorem ok_X10_span : mOK M_X10_span 2 := ⟨tb_660, tb_1, by decide +kernel⟩
abbrev M_X10_page : MD := (yX10_page, cX10_page, 5, some .int)
abbrev rm_X10_page : Room := { frames := 5, cells := 0, slots := 0, locals := 119 }
def w_X10_page_21 (K : Int → Hh → Prop) (a0 : Int) (h : Hh) : Prop := K (-1) h
set_option maxRecDepth 100000 in
set_option maxHeartbeats 4000000 in
theorem t_X10_page_21 {G : Gx} {n0 : Int} {K : Int → Hh → Prop} {a0 : Int} (h0 : 0 ≤ a0)  (h : Hh) (hf : w_X10_page_21 K  a0  h) : PW G M_X10_page rm_X10_page 0 0 [] n0 K 21 [] [] [] 0 0 h := by
  unfold w_X10_page_21 at hf
  refine p_iconst dX10_page_21 (by decide) ?_
  exact p_iret dX10_page_22 rfl (by decide) (by decide) (fun _ h => absurd h List.not_mem_nil) hf
def w_X10_page (a0 x1 x2 x3 : Int) (h : Hh) (K : Int → Hh → Prop) : Prop := w_X10_chartAt a0 x1 h (fun r1 h2 => if r1 = -1 then (w_X10_page_21 K  a0  h2) else (0 ≤ r1 ∧ (w_X0_hasPage r1 x2 h2 (fun r4 h5 => if r4 ≠ 0 then (if x3 ≠ 0 then (if x3 ≠ 1 then (K (-1) h5) else (((0 : Int) ≤ x2 ∧ (x2 : Int) < 3) ∧ (w_X0_tallWith r1 x2 (h5 (r1 + 2) x2) (h5 (r1 + 3) x2) h5 (fun r7 h8 => K (w32 r7) h8)))) else (w_X0_midOf r1 x2 h5 (fun r9 h10 => K (w32 r9) h10))) else (w_X10_page_21 K  a0  h5)))))
set_option maxRecDepth 100000 in
set_option maxHeartbeats 4000000 in
theorem t_X10_page {G : Gx} (a0 x1 x2 x3 : Int) (h : Hh) (K : Int → Hh → Prop) (h0 : 0 ≤ a0) (hf : w_X10_page a0 x1 x2 x3 h K) : CT G M_X10_page rm_X10_page 0 0 [] [vr 10 a0 0, vi x1, vi x2, vi x3] h K := by
  unfold w_X10_page at hf
  refine CT.of (ls0 := [(0, vr 10 a0 0), (1, vi x1), (2, vi x2), (3, vi x3)]) (plainFor_of_name (by decide +kernel)) (by decide +kernel) (Nat.le_of_ble_eq_true rfl) rfl rfl ?_
  refine p_aload_n dX10_page_0 rfl 0 rfl ?_
  refine p_iload_n dX10_page_1 rfl 1 rfl ?_
  refine p_callVr (Cn := "ThreadCharts$Chart") dX10_page_2 M_X10_chartAt rfl [vi x1] (t_X10_chartAt _ _ _ _ h0 hf) ok_X10_chartAt rfl (c := 10) (by decide) h0 rfl tb_575 ⟨tb_577, ts_29⟩ rfl (Nat.le_of_ble_eq_true rfl) ⟨rfl, rfl⟩ ⟨by decide, by decide⟩ ⟨by decide, by decide⟩ (fun r1 h2 hf => ?_)
  refine p_astore (ls' := [(4, vr 0 r1 0), (0, vr 10 a0 0), (1, vi x1), (2, vi x2), (3, vi x3)]) dX10_page_5 (by decide) rfl ?_
  refine p_aload dX10_page_7 0 rfl ?_
  refine p_ifnull (tgt := 21) dX10_page_9 (by decide) (by decide) (fun hc => ?_) (fun hc => ?_)
  · replace hf := Eq.mp (if_pos hc) hf
    refine p_sub (ls' := []) [] rfl ?_
    exact t_X10_page_21 h0   _ hf
  · replace hf := Eq.mp (if_neg hc) hf
    refine p_aload dX10_page_12 0 rfl ?_
    refine p_iload_n dX10_page_14 rfl 3 rfl ?_
    obtain ⟨c3, hf⟩ := hf
    refine p_callVNi dX10_page_15 M_X0_hasPage (Or.inr rfl) [vi x2] (t_X0_hasPage _ _ _ _ c3 hf) ok_X0_hasPage rfl (c := 0) (by decide) c3 rfl tb_656 ⟨tb_569, ts_28⟩ rfl (Nat.le_of_ble_eq_true rfl) ⟨rfl, rfl⟩ ⟨by decide, by decide⟩ ⟨by decide, by decide⟩ (fun r4 h5 hf => ?_)
    refine p_if_ne (tgt := 23) (q := r4 ≠ 0) dX10_page_18 (by decide) Iff.rfl (fun hc => ?_) (fun hc => ?_)
    · replace hf := Eq.mp (if_pos hc) hf
      refine p_iload_n dX10_page_23 rfl 4 rfl ?_
      refine p_if_ne (tgt := 35) (q := x3 ≠ 0) dX10_page_24 (by decide) Iff.rfl (fun hc => ?_) (fun hc => ?_)
      · replace hf := Eq.mp (if_pos hc) hf
        refine p_iload_n dX10_page_35 rfl 4 rfl ?_
        refine p_iconst dX10_page_36 (by decide) ?_
        refine p_icmp_ne (tgt := 62) (q := x3 ≠ 1) dX10_page_37 (by decide) Iff.rfl (fun hc => ?_) (fun hc => ?_)
        · replace hf := Eq.mp (if_pos hc) hf
          refine p_iconst dX10_page_62 (by decide) ?_
          exact p_iret dX10_page_63 rfl (by decide) (by decide) (fun _ h => absurd h List.not_mem_nil) hf
        · replace hf := Eq.mp (if_neg hc) hf
          refine p_aload dX10_page_40 0 rfl ?_
          refine p_iload_n dX10_page_42 rfl 3 rfl ?_
          refine p_aload dX10_page_43 0 rfl ?_
          refine p_layN (c := 0) (tq := 100) (n := 3) dX10_page_45 6 2 tb_507 (by decide) (by decide) c3 (by decide) (by decide) (fun _ => rfl) (vr 100 (r1 + 2) 3) rfl ?_
          refine p_iload_n dX10_page_48 rfl 3 rfl ?_
          obtain ⟨c6, hf⟩ := hf
          refine p_iald dX10_page_49 (nnk c3 (by decide)) c6 ?_
          refine p_aload dX10_page_50 0 rfl ?_
          refine p_layN (c := 0) (tq := 100) (n := 3) dX10_page_52 7 3 tb_510 (by decide) (by decide) c3 (by decide) (by decide) (fun _ => rfl) (vr 100 (r1 + 3) 3) rfl ?_
          refine p_iload_n dX10_page_55 rfl 3 rfl ?_
          refine p_iald dX10_page_56 (nnk c3 (by decide)) c6 ?_
          refine p_callVNl dX10_page_57 M_X0_tallWith rfl [vi x2, vi (h5 (r1 + 2) x2), vi (h5 (r1 + 3) x2)] (t_X0_tallWith _ _ _ _ _ _ c3 hf) ok_X0_tallWith rfl (c := 0) (by decide) c3 rfl tb_675 ⟨tb_677, ts_45⟩ rfl (Nat.le_of_ble_eq_true rfl) ⟨rfl, rfl⟩ ⟨by decide, by decide⟩ ⟨by decide, by decide⟩ (fun r7 h8 hf => ?_)
          refine p_l2i dX10_page_60 ?_
          exact p_iret dX10_page_61 rfl (by decide) (by decide) (fun _ h => absurd h List.not_mem_nil) hf
      · replace hf := Eq.mp (if_neg hc) hf
        refine p_aload dX10_page_27 0 rfl ?_
        refine p_iload_n dX10_page_29 rfl 3 rfl ?_
        refine p_callVNl dX10_page_30 M_X0_midOf rfl [vi x2] (t_X0_midOf _ _ _ _ c3 hf) ok_X0_midOf rfl (c := 0) (by decide) c3 rfl tb_674 ⟨tb_621, ts_38⟩ rfl (Nat.le_of_ble_eq_true rfl) ⟨rfl, rfl⟩ ⟨by decide, by decide⟩ ⟨by decide, by decide⟩ (fun r9 h10 hf => ?_)
        refine p_l2i dX10_page_33 ?_
        exact p_iret dX10_page_34 rfl (by decide) (by decide) (fun _ h => absurd h List.not_mem_nil) hf
    · replace hf := Eq.mp (if_neg hc) hf
      refine p_sub (ls' := []) [] rfl ?_
      exact t_X10_page_21 h0   _ hf
theorem ok_X10_page : mOK M_X10_page 3 := ⟨tb_673, tb_1, by decide +kernel⟩
abbrev M_X10_sharpest : MD := (yX10_sharpest, cX10_sharpest, 5, some .int)
abbrev rm_X10_sharpest : Room := { frames := 6, cells := 0, slots := 0, locals := 153 }
def w_X10_sharpest_28 (K : Int → Hh → Prop) (a0 : Int) (h : Hh) : Prop := K (-1) h
set_option maxRecDepth 100000 in
set_option maxHeartbeats 4000000 in
theorem t_X10_sharpest_28 {G : Gx} {n0 : Int} {K : Int → Hh → Prop} {a0 : Int} (h0 : 0 ≤ a0)  (h : Hh) (hf : w_X10_sharpest_28 K  a0  h) : PW G M_X10_sharpest rm_X10_sharpest 0 0 [] n0 K 28 [] [] [] 0 0 h := by
  unfold w_X10_sharpest_28 at hf
  refine p_iconst dX10_sharpest_28 (by decide) ?_
  exact p_iret dX10_sharpest_29 rfl (by decide) (by decide) (fun _ h => absurd h List.not_mem_nil) hf
def w_X10_sharpest_62 (K : Int → Hh → Prop) (a0 : Int) (s0 : Int) (h : Hh) : Prop := K s0 h
set_option maxRecDepth 100000 in
set_option maxHeartbeats 4000000 in
theorem t_X10_sharpest_62 {G : Gx} {n0 : Int} {K : Int → Hh → Prop} {a0 : Int} (h0 : 0 ≤ a0)  (s0 : Int) (h : Hh) (hf : w_X10_sharpest_62 K  a0 s0 h) : PW G M_X10_sharpest rm_X10_sharpest 0 0 [] n0 K 62 [] [vi s0] [] 0 0 h := by
  unfold w_X10_sharpest_62 at hf
  exact p_iret dX10_sharpest_62 rfl (by decide) (by decide) (fun _ h => absurd h List.not_mem_nil) hf
def w_X10_sharpest (a0 x1 x2 x3 : Int) (h : Hh) (K : Int → Hh → Prop) : Prop := w_X10_chartAt a0 x1 h (fun r1 h2 => if r1 = -1 then (w_X10_sharpest_28 K  a0  h2) else (w_X10_isEye x2 h2 (fun r3 h4 => if r3 = 0 then (w_X10_sharpest_28 K  a0  h4) else (if x3 < 0 then (w_X10_sharpest_28 K  a0  h4) else (if x3 ≤ 1 then (w_X3_look (a0 + 25) r1 x2 h4 (fun _ h5 => if x3 ≠ 0 then (w_X10_sharpest_62 K  a0 (w32 (h5 (a0 + 25) 3)) h5) else (w_X10_sharpest_62 K  a0 (h5 (a0 + 25) 2) h5))) else (w_X10_sharpest_28 K  a0  h4))))))
set_option maxRecDepth 100000 in
set_option maxHeartbeats 4000000 in
theorem t_X10_sharpest {G : Gx} (a0 x1 x2 x3 : Int) (h : Hh) (K : Int → Hh → Prop) (h0 : 0 ≤ a0) (hf : w_X10_sharpest a0 x1 x2 x3 h K) : CT G M_X10_sharpest rm_X10_sharpest 0 0 [] [vr 10 a0 0, vi x1, vi x2, vi x3] h K := by
  unfold w_X10_sharpest at hf
  refine CT.of (ls0 := [(0, vr 10 a0 0), (1, vi x1), (2, vi x2), (3, vi x3)]) (plainFor_of_name (by decide +kernel)) (by decide +kernel) (Nat.le_of_ble_eq_true rfl) rfl rfl ?_
  refine p_aload_n dX10_sharpest_0 rfl 0 rfl ?_
  refine p_iload_n dX10_sharpest_1 rfl 1 rfl ?_
  refine p_callVr (Cn := "ThreadCharts$Chart") dX10_sharpest_2 M_X10_chartAt rfl [vi x1] (t_X10_chartAt _ _ _ _ h0 hf) ok_X10_chartAt rfl (c := 10) (by decide) h0 rfl tb_575 ⟨tb_577, ts_29⟩ rfl (Nat.le_of_ble_eq_true rfl) ⟨rfl, rfl⟩ ⟨by decide, by decide⟩ ⟨by decide, by decide⟩ (fun r1 h2 hf => ?_)
  refine p_astore (ls' := [(4, vr 0 r1 0), (0, vr 10 a0 0), (1, vi x1), (2, vi x2), (3, vi x3)]) dX10_sharpest_5 (by decide) rfl ?_
  refine p_aload dX10_sharpest_7 0 rfl ?_
  refine p_ifnull (tgt := 28) dX10_sharpest_9 (by decide) (by decide) (fun hc => ?_) (fun hc => ?_)
  · replace hf := Eq.mp (if_pos hc) hf
    refine p_sub (ls' := []) [] rfl ?_
    exact t_X10_sharpest_28 h0   _ hf
  · replace hf := Eq.mp (if_neg hc) hf
    refine p_iload_n dX10_sharpest_12 rfl 3 rfl ?_
    refine p_callSi dX10_sharpest_13 M_X10_isEye (Or.inr rfl) [vi x2] (t_X10_isEye _ _ _ hf) ok_X10_isEye rfl tb_661 tb_662 rfl (Nat.le_of_ble_eq_true rfl) ⟨rfl, rfl⟩ ⟨by decide, by decide⟩ ⟨by decide, by decide⟩ (fun r3 h4 hf => ?_)
    refine p_if_eq (tgt := 28) (q := r3 = 0) dX10_sharpest_16 (by decide) Iff.rfl (fun hc => ?_) (fun hc => ?_)
    · replace hf := Eq.mp (if_pos hc) hf
      refine p_sub (ls' := []) [] rfl ?_
      exact t_X10_sharpest_28 h0   _ hf
    · replace hf := Eq.mp (if_neg hc) hf
      refine p_iload_n dX10_sharpest_19 rfl 4 rfl ?_
      refine p_if_lt (tgt := 28) (q := x3 < 0) dX10_sharpest_20 (by decide) Iff.rfl (fun hc => ?_) (fun hc => ?_)
      · replace hf := Eq.mp (if_pos hc) hf
        refine p_sub (ls' := []) [] rfl ?_
        exact t_X10_sharpest_28 h0   _ hf
      · replace hf := Eq.mp (if_neg hc) hf
        refine p_iload_n dX10_sharpest_23 rfl 4 rfl ?_
        refine p_iconst dX10_sharpest_24 (by decide) ?_
        refine p_icmp_le (tgt := 30) (q := x3 ≤ 1) dX10_sharpest_25 (by decide) Iff.rfl (fun hc => ?_) (fun hc => ?_)
        · replace hf := Eq.mp (if_pos hc) hf
          refine p_aload_n dX10_sharpest_30 rfl 1 rfl ?_
          refine p_lay (c := 10) (tq := 3) (n := 0) dX10_sharpest_31 15 25 tb_242 (by decide) (by decide) h0 (by decide) (by decide) (fun _ => rfl) (vr 3 (a0 + 25) 0) rfl ?_
          refine p_aload dX10_sharpest_34 0 rfl ?_
          refine p_iload_n dX10_sharpest_36 rfl 3 rfl ?_
          refine p_callVNv dX10_sharpest_37 M_X3_look rfl [vr 0 r1 0, vi x2] (t_X3_look _ _ _ _ _ (nnk h0 (by decide)) hf) ok_X3_look rfl (c := 3) (by decide) (nnk h0 (by decide)) rfl tb_692 ⟨tb_694, ts_46⟩ rfl (Nat.le_of_ble_eq_true rfl) ⟨rfl, rfl⟩ ⟨by decide, by decide⟩ ⟨by decide, by decide⟩ (fun _ h5 hf => ?_)
          refine p_iload_n dX10_sharpest_40 rfl 4 rfl ?_
          refine p_if_ne (tgt := 54) (q := x3 ≠ 0) dX10_sharpest_41 (by decide) Iff.rfl (fun hc => ?_) (fun hc => ?_)
          · replace hf := Eq.mp (if_pos hc) hf
            refine p_aload_n dX10_sharpest_54 rfl 1 rfl ?_
            refine p_lay (c := 10) (tq := 3) (n := 0) dX10_sharpest_55 15 25 tb_242 (by decide) (by decide) h0 (by decide) (by decide) (fun _ => rfl) (vr 3 (a0 + 25) 0) rfl ?_
            refine p_getN (c := 3) (vl (h5 (a0 + 25) 3)) dX10_sharpest_58 3 tb_181 (by decide) (by decide) (Or.inl rfl) (nnk h0 (by decide)) rfl rfl ?_
            refine p_l2i dX10_sharpest_61 ?_
            refine p_sub (ls' := []) [] rfl ?_
            exact t_X10_sharpest_62 h0  _ _ hf
          · replace hf := Eq.mp (if_neg hc) hf
            refine p_aload_n dX10_sharpest_44 rfl 1 rfl ?_
            refine p_lay (c := 10) (tq := 3) (n := 0) dX10_sharpest_45 15 25 tb_242 (by decide) (by decide) h0 (by decide) (by decide) (fun _ => rfl) (vr 3 (a0 + 25) 0) rfl ?_
            refine p_getN (c := 3) (vi (h5 (a0 + 25) 2)) dX10_sharpest_48 2 tb_179 (by decide) (by decide) (Or.inl rfl) (nnk h0 (by decide)) rfl rfl ?_
            refine p_goto (tgt := 62) dX10_sharpest_51 (by decide) ?_
            refine p_sub (ls' := []) [] rfl ?_
            exact t_X10_sharpest_62 h0  _ _ hf
        · replace hf := Eq.mp (if_neg hc) hf
          refine p_sub (ls' := []) [] rfl ?_
          exact t_X10_sharpest_28 h0   _ hf
theorem ok_X10_sharpest : mOK M_X10_sharpest 3 := ⟨tb_691, tb_1, by decide +kernel⟩
abbrev M_X10_isListed : MD := (yX10_isListed, cX10_isListed, 3, some .boolean)
abbrev rm_X10_isListed : Room := { frames := 0, cells := 0, slots := 0, locals := 0 }
def w_X10_isListed_2 (K : Int → Hh → Prop) (a0 : Int) : Nat → Int → Int → Hh → Prop
  | 0, _, _, _ => False
  | n + 1, v1, v2, h => if v2 ≥ h a0 7 then (K 0 h) else (((0 : Int) ≤ v2 ∧ (v2 : Int) < 4) ∧ (if h (a0 + 8) v2 ≠ v1 then (vb (w32 (v2 + 1)) fun z2 => w_X10_isListed_2 K  a0 n v1 z2 h) else (K 1 h)))
set_option maxRecDepth 100000 in
set_option maxHeartbeats 4000000 in
theorem t_X10_isListed_2 {G : Gx} {n0 : Int} {K : Int → Hh → Prop} {a0 : Int} (h0 : 0 ≤ a0) : ∀ (n : Nat) (v1 v2 : Int) (h : Hh), w_X10_isListed_2 K  a0 n v1 v2 h → PW G M_X10_isListed rm_X10_isListed 0 0 [] n0 K 2 [(0, vr 10 a0 0), (1, vi v1), (2, vi v2)] [] [] 0 0 h := by
  intro n
  induction n with
  | zero =>
    intro v1 v2 h hf
    rw [w_X10_isListed_2] at hf
    exact hf.elim
  | succ n ih =>
    intro v1 v2 h hf
    rw [w_X10_isListed_2] at hf
    refine p_iload_n dX10_isListed_2 rfl 2 rfl ?_
    refine p_aload_n dX10_isListed_3 rfl 0 rfl ?_
    refine p_get (c := 10) (vi (h a0 7)) dX10_isListed_4 7 tb_234 (by decide) (by decide) (Or.inl rfl) h0 rfl rfl ?_
    refine p_icmp_ge (tgt := 28) (q := v2 ≥ h a0 7) dX10_isListed_7 (by decide) Iff.rfl (fun hc => ?_) (fun hc => ?_)
    · replace hf := Eq.mp (if_pos hc) hf
      refine p_iconst dX10_isListed_28 (by decide) ?_
      exact p_zret dX10_isListed_29 rfl (by decide) (by decide) (fun _ h => absurd h List.not_mem_nil) (Or.inl rfl) hf
    · replace hf := Eq.mp (if_neg hc) hf
      refine p_aload_n dX10_isListed_10 rfl 0 rfl ?_
      refine p_lay (c := 10) (tq := 100) (n := 4) dX10_isListed_11 6 8 tb_233 (by decide) (by decide) h0 (by decide) (by decide) (fun _ => rfl) (vr 100 (a0 + 8) 4) rfl ?_
      refine p_iload_n dX10_isListed_14 rfl 2 rfl ?_
      obtain ⟨c1, hf⟩ := hf
      refine p_iald dX10_isListed_15 (nnk h0 (by decide)) c1 ?_
      refine p_iload_n dX10_isListed_16 rfl 1 rfl ?_
      refine p_icmp_ne (tgt := 22) (q := h (a0 + 8) v2 ≠ v1) dX10_isListed_17 (by decide) Iff.rfl (fun hc => ?_) (fun hc => ?_)
      · replace hf := Eq.mp (if_pos hc) hf
        refine p_iinc (ls' := [(2, vi (w32 (v2 + 1))), (0, vr 10 a0 0), (1, vi v1)]) dX10_isListed_22 2 rfl (by decide) rfl ?_
        replace hf := vb_e hf
        generalize w32 (v2 + 1) = z2 at hf ⊢
        refine p_goto (tgt := 2) dX10_isListed_25 (by decide) ?_
        refine p_sub (ls' := [(0, vr 10 a0 0), (1, vi v1), (2, vi z2)]) [1, 2, 0] rfl ?_
        exact ih _ _ _ hf
      · replace hf := Eq.mp (if_neg hc) hf
        refine p_iconst dX10_isListed_20 (by decide) ?_
        exact p_zret dX10_isListed_21 rfl (by decide) (by decide) (fun _ h => absurd h List.not_mem_nil) (Or.inr rfl) hf
def w_X10_isListed (a0 x1 : Int) (h : Hh) (K : Int → Hh → Prop) : Prop := w_X10_isListed_2 K  a0 NF x1 0 h
set_option maxRecDepth 100000 in
set_option maxHeartbeats 4000000 in
theorem t_X10_isListed {G : Gx} (a0 x1 : Int) (h : Hh) (K : Int → Hh → Prop) (h0 : 0 ≤ a0) (hf : w_X10_isListed a0 x1 h K) : CT G M_X10_isListed rm_X10_isListed 0 0 [] [vr 10 a0 0, vi x1] h K := by
  unfold w_X10_isListed at hf
  refine CT.of (ls0 := [(0, vr 10 a0 0), (1, vi x1)]) (plainFor_of_name (by decide +kernel)) (by decide +kernel) (Nat.le_of_ble_eq_true rfl) rfl rfl ?_
  refine p_iconst dX10_isListed_0 (by decide) ?_
  refine p_istore_n (ls' := [(2, vi 0), (0, vr 10 a0 0), (1, vi x1)]) dX10_isListed_1 rfl (by decide) rfl ?_
  refine p_sub (ls' := [(0, vr 10 a0 0), (1, vi x1), (2, vi 0)]) [1, 2, 0] rfl ?_
  refine t_X10_isListed_2 h0  NF _ _ _ hf
theorem ok_X10_isListed : mOK M_X10_isListed 1 := ⟨tb_723, tb_1, by decide +kernel⟩
abbrev M_X10_list : MD := (yX10_list, cX10_list, 2, some .int)
abbrev rm_X10_list : Room := { frames := 1, cells := 0, slots := 0, locals := 22 }
def w_X10_list_27 (K : Int → Hh → Prop) (a0 : Int) (h : Hh) : Prop := K (-1) h
set_option maxRecDepth 100000 in
set_option maxHeartbeats 4000000 in
theorem t_X10_list_27 {G : Gx} {n0 : Int} {K : Int → Hh → Prop} {a0 : Int} (h0 : 0 ≤ a0)  (h : Hh) (hf : w_X10_list_27 K  a0  h) : PW G M_X10_list rm_X10_list 0 0 [] n0 K 27 [] [] [] 0 0 h := by
  unfold w_X10_list_27 at hf
  refine p_iconst dX10_list_27 (by decide) ?_
  exact p_iret dX10_list_28 rfl (by decide) (by decide) (fun _ h => absurd h List.not_mem_nil) hf
def w_X10_list (a0 x1 : Int) (h : Hh) (K : Int → Hh → Prop) : Prop := if x1 < 1 then (w_X10_list_27 K  a0  h) else (if x1 > 50 then (w_X10_list_27 K  a0  h) else (if h a0 7 ≥ 4 then (w_X10_list_27 K  a0  h) else (w_X10_isListed a0 x1 h (fun r1 h2 => if r1 = 0 then (((0 : Int) ≤ h2 a0 7 ∧ (h2 a0 7 : Int) < 4) ∧ (hb (up h2 (a0 + 8) (h2 a0 7) x1) fun h4 => hb (up h4 a0 7 (w32 ((h4 a0 7) + 1))) fun h5 => K (h5 a0 7) h5)) else (w_X10_list_27 K  a0  h2)))))
set_option maxRecDepth 100000 in
set_option maxHeartbeats 4000000 in
theorem t_X10_list {G : Gx} (a0 x1 : Int) (h : Hh) (K : Int → Hh → Prop) (h0 : 0 ≤ a0) (hf : w_X10_list a0 x1 h K) : CT G M_X10_list rm_X10_list 0 0 [] [vr 10 a0 0, vi x1] h K := by
  unfold w_X10_list at hf
  refine CT.of (ls0 := [(0, vr 10 a0 0), (1, vi x1)]) (plainFor_of_name (by decide +kernel)) (by decide +kernel) (Nat.le_of_ble_eq_true rfl) rfl rfl ?_
  refine p_iload_n dX10_list_0 rfl 1 rfl ?_
  refine p_iconst dX10_list_1 (by decide) ?_
  refine p_icmp_lt (tgt := 27) (q := x1 < 1) dX10_list_2 (by decide) Iff.rfl (fun hc => ?_) (fun hc => ?_)
  · replace hf := Eq.mp (if_pos hc) hf
    refine p_sub (ls' := []) [] rfl ?_
    exact t_X10_list_27 h0   _ hf
  · replace hf := Eq.mp (if_neg hc) hf
    refine p_iload_n dX10_list_5 rfl 1 rfl ?_
    refine p_bipush dX10_list_6 (by decide) (by decide) ?_
    refine p_icmp_gt (tgt := 27) (q := x1 > 50) dX10_list_8 (by decide) Iff.rfl (fun hc => ?_) (fun hc => ?_)
    · replace hf := Eq.mp (if_pos hc) hf
      refine p_sub (ls' := []) [] rfl ?_
      exact t_X10_list_27 h0   _ hf
    · replace hf := Eq.mp (if_neg hc) hf
      refine p_aload_n dX10_list_11 rfl 0 rfl ?_
      refine p_get (c := 10) (vi (h a0 7)) dX10_list_12 7 tb_234 (by decide) (by decide) (Or.inl rfl) h0 rfl rfl ?_
      refine p_iconst dX10_list_15 (by decide) ?_
      refine p_icmp_ge (tgt := 27) (q := h a0 7 ≥ 4) dX10_list_16 (by decide) Iff.rfl (fun hc => ?_) (fun hc => ?_)
      · replace hf := Eq.mp (if_pos hc) hf
        refine p_sub (ls' := []) [] rfl ?_
        exact t_X10_list_27 h0   _ hf
      · replace hf := Eq.mp (if_neg hc) hf
        refine p_aload_n dX10_list_19 rfl 0 rfl ?_
        refine p_iload_n dX10_list_20 rfl 1 rfl ?_
        refine p_callVi dX10_list_21 M_X10_isListed (Or.inr rfl) [vi x1] (t_X10_isListed _ _ _ _ h0 hf) ok_X10_isListed rfl (c := 10) (by decide) h0 rfl tb_720 ⟨tb_722, ts_51⟩ rfl (Nat.le_of_ble_eq_true rfl) ⟨rfl, rfl⟩ ⟨by decide, by decide⟩ ⟨by decide, by decide⟩ (fun r1 h2 hf => ?_)
        refine p_if_eq (tgt := 29) (q := r1 = 0) dX10_list_24 (by decide) Iff.rfl (fun hc => ?_) (fun hc => ?_)
        · replace hf := Eq.mp (if_pos hc) hf
          refine p_aload_n dX10_list_29 rfl 0 rfl ?_
          refine p_lay (c := 10) (tq := 100) (n := 4) dX10_list_30 6 8 tb_233 (by decide) (by decide) h0 (by decide) (by decide) (fun _ => rfl) (vr 100 (a0 + 8) 4) rfl ?_
          refine p_aload_n dX10_list_33 rfl 0 rfl ?_
          refine p_get (c := 10) (vi (h2 a0 7)) dX10_list_34 7 tb_234 (by decide) (by decide) (Or.inl rfl) h0 rfl rfl ?_
          refine p_iload_n dX10_list_37 rfl 1 rfl ?_
          obtain ⟨c3, hf⟩ := hf
          refine p_iast dX10_list_38 (nnk h0 (by decide)) c3 ?_
          replace hf := hb_e hf
          generalize up h2 (a0 + 8) (h2 a0 7) x1 = h4 at hf ⊢
          refine p_aload_n dX10_list_39 rfl 0 rfl ?_
          refine p_dup dX10_list_40 (fun _ q => by cases q) ?_
          refine p_get (c := 10) (vi (h4 a0 7)) dX10_list_41 7 tb_234 (by decide) (by decide) (Or.inl rfl) h0 rfl rfl ?_
          refine p_iconst dX10_list_44 (by decide) ?_
          refine p_iadd dX10_list_45 ?_
          refine p_puti (c := 10) dX10_list_46 7 tb_234 (by decide) (by decide) (Or.inl rfl) h0 rfl rfl (fun _ => by decide) (up h4 a0 7 (w32 ((h4 a0 7) + 1))) rfl ?_
          replace hf := hb_e hf
          generalize up h4 a0 7 (w32 ((h4 a0 7) + 1)) = h5 at hf ⊢
          refine p_aload_n dX10_list_49 rfl 0 rfl ?_
          refine p_get (c := 10) (vi (h5 a0 7)) dX10_list_50 7 tb_234 (by decide) (by decide) (Or.inl rfl) h0 rfl rfl ?_
          exact p_iret dX10_list_53 rfl (by decide) (by decide) (fun _ h => absurd h List.not_mem_nil) hf
        · replace hf := Eq.mp (if_neg hc) hf
          refine p_sub (ls' := []) [] rfl ?_
          exact t_X10_list_27 h0   _ hf
theorem ok_X10_list : mOK M_X10_list 1 := ⟨tb_719, tb_1, by decide +kernel⟩
abbrev M_X10_clear : MD := (yX10_clear, cX10_clear, 2, some .int)
abbrev rm_X10_clear : Room := { frames := 0, cells := 0, slots := 0, locals := 0 }
def w_X10_clear (a0 : Int) (h : Hh) (K : Int → Hh → Prop) : Prop := vb (h a0 7) fun z1 => hb (up h a0 7 0) fun h2 => K z1 h2
set_option maxRecDepth 100000 in
set_option maxHeartbeats 4000000 in
theorem t_X10_clear {G : Gx} (a0 : Int) (h : Hh) (K : Int → Hh → Prop) (h0 : 0 ≤ a0) (hf : w_X10_clear a0 h K) : CT G M_X10_clear rm_X10_clear 0 0 [] [vr 10 a0 0] h K := by
  unfold w_X10_clear at hf
  refine CT.of (ls0 := [(0, vr 10 a0 0)]) (plainFor_of_name (by decide +kernel)) (by decide +kernel) (Nat.le_of_ble_eq_true rfl) rfl rfl ?_
  refine p_aload_n dX10_clear_0 rfl 0 rfl ?_
  refine p_get (c := 10) (vi (h a0 7)) dX10_clear_1 7 tb_234 (by decide) (by decide) (Or.inl rfl) h0 rfl rfl ?_
  refine p_istore_n (ls' := [(1, vi (h a0 7)), (0, vr 10 a0 0)]) dX10_clear_4 rfl (by decide) rfl ?_
  replace hf := vb_e hf
  generalize (h a0 7) = z1 at hf ⊢
  refine p_aload_n dX10_clear_5 rfl 1 rfl ?_
  refine p_iconst dX10_clear_6 (by decide) ?_
  refine p_puti (c := 10) dX10_clear_7 7 tb_234 (by decide) (by decide) (Or.inl rfl) h0 rfl rfl (fun _ => by decide) (up h a0 7 0) rfl ?_
  replace hf := hb_e hf
  generalize up h a0 7 0 = h2 at hf ⊢
  refine p_iload_n dX10_clear_10 rfl 0 rfl ?_
  exact p_iret dX10_clear_11 rfl (by decide) (by decide) (fun _ h => absurd h List.not_mem_nil) hf
theorem ok_X10_clear : mOK M_X10_clear 0 := ⟨tb_727, tb_1, by decide +kernel⟩
abbrev M_X10_finest : MD := (yX10_finest, cX10_finest, 8, some .int)
abbrev rm_X10_finest : Room := { frames := 6, cells := 0, slots := 0, locals := 149 }
def w_X10_finest_34 (K : Int → Hh → Prop) (a0 : Int) (h : Hh) : Prop := K (-1) h
set_option maxRecDepth 100000 in
set_option maxHeartbeats 4000000 in
theorem t_X10_finest_34 {G : Gx} {n0 : Int} {K : Int → Hh → Prop} {a0 : Int} (h0 : 0 ≤ a0)  (h : Hh) (hf : w_X10_finest_34 K  a0  h) : PW G M_X10_finest rm_X10_finest 0 0 [] n0 K 34 [] [] [] 0 0 h := by
  unfold w_X10_finest_34 at hf
  refine p_iconst dX10_finest_34 (by decide) ?_
  exact p_iret dX10_finest_35 rfl (by decide) (by decide) (fun _ h => absurd h List.not_mem_nil) hf
def w_X10_finest_88 (K : Int → Hh → Prop) (B : Int → Int → Int → Int → Int → Hh → Prop) (a0 : Int) (v2 v3 v4 v5 v6 : Int) (h : Hh) : Prop := vb (w32 (v6 + 1)) fun z9 => B v2 v3 v4 v5 z9 h
set_option maxRecDepth 100000 in
set_option maxHeartbeats 4000000 in
theorem t_X10_finest_88 {G : Gx} {n0 : Int} {K : Int → Hh → Prop} {B : Int → Int → Int → Int → Int → Hh → Prop} {a0 : Int} (h0 : 0 ≤ a0) (hB : ∀ (v2 v3 v4 v5 v6 : Int) (h : Hh), B v2 v3 v4 v5 v6 h → PW G M_X10_finest rm_X10_finest 0 0 [] n0 K 42 [(0, vr 10 a0 0), (2, vi v2), (3, vi v3), (4, vr 0 v4 0), (5, vi v5), (6, vi v6)] [] [] 0 0 h)  (v2 v3 v4 v5 v6 : Int) (h : Hh) (hf : w_X10_finest_88 K B a0 v2 v3 v4 v5 v6 h) : PW G M_X10_finest rm_X10_finest 0 0 [] n0 K 88 [(0, vr 10 a0 0), (2, vi v2), (3, vi v3), (4, vr 0 v4 0), (5, vi v5), (6, vi v6)] [] [] 0 0 h := by
  unfold w_X10_finest_88 at hf
  refine p_iinc (ls' := [(6, vi (w32 (v6 + 1))), (0, vr 10 a0 0), (2, vi v2), (3, vi v3), (4, vr 0 v4 0), (5, vi v5)]) dX10_finest_88 5 rfl (by decide) rfl ?_
  replace hf := vb_e hf
  generalize w32 (v6 + 1) = z9 at hf ⊢
  refine p_goto (tgt := 42) dX10_finest_91 (by decide) ?_
  refine p_sub (ls' := [(0, vr 10 a0 0), (2, vi v2), (3, vi v3), (4, vr 0 v4 0), (5, vi v5), (6, vi z9)]) [1, 2, 3, 4, 5, 0] rfl ?_
  exact hB _ _ _ _ _ _ hf
def w_X10_finest_42 (K : Int → Hh → Prop) (a0 : Int) : Nat → Int → Int → Int → Int → Int → Hh → Prop
  | 0, _, _, _, _, _, _ => False
  | n + 1, v2, v3, v4, v5, v6, h => 0 ≤ v4 ∧ (if v6 ≥ h v4 3 then (K v5 h) else (w_X0_finestOf v4 v6 v2 (a0 + 8) 4 (h a0 7) h (fun r7 h8 => if r7 ≠ (-1) then (if v6 ≠ v3 then (w_X10_finest_88 K (w_X10_finest_42 K  a0 n) a0 v2 v3 v4 v5 v6 h8) else (w_X10_finest_88 K (w_X10_finest_42 K  a0 n) a0 v2 v3 v4 r7 v6 h8)) else (K (-1) h8))))
set_option maxRecDepth 100000 in
set_option maxHeartbeats 4000000 in
theorem t_X10_finest_42 {G : Gx} {n0 : Int} {K : Int → Hh → Prop} {a0 : Int} (h0 : 0 ≤ a0) : ∀ (n : Nat) (v2 v3 v4 v5 v6 : Int) (h : Hh), w_X10_finest_42 K  a0 n v2 v3 v4 v5 v6 h → PW G M_X10_finest rm_X10_finest 0 0 [] n0 K 42 [(0, vr 10 a0 0), (2, vi v2), (3, vi v3), (4, vr 0 v4 0), (5, vi v5), (6, vi v6)] [] [] 0 0 h := by
  intro n
  induction n with
  | zero =>
    intro v2 v3 v4 v5 v6 h hf
    rw [w_X10_finest_42] at hf
    exact hf.elim
  | succ n ih =>
    intro v2 v3 v4 v5 v6 h hf
    rw [w_X10_finest_42] at hf
    refine p_iload dX10_finest_42 5 rfl ?_
    refine p_aload dX10_finest_44 3 rfl ?_
    obtain ⟨c6, hf⟩ := hf
    refine p_getN (c := 0) (vi (h v4 3)) dX10_finest_46 3 tb_500 (by decide) (by decide) (Or.inl rfl) c6 rfl rfl ?_
    refine p_icmp_ge (tgt := 94) (q := v6 ≥ h v4 3) dX10_finest_49 (by decide) Iff.rfl (fun hc => ?_) (fun hc => ?_)
    · replace hf := Eq.mp (if_pos hc) hf
      refine p_iload dX10_finest_94 4 rfl ?_
      exact p_iret dX10_finest_96 rfl (by decide) (by decide) (fun _ h => absurd h List.not_mem_nil) hf
    · replace hf := Eq.mp (if_neg hc) hf
      refine p_aload dX10_finest_52 3 rfl ?_
      refine p_iload dX10_finest_54 5 rfl ?_
      refine p_iload_n dX10_finest_56 rfl 1 rfl ?_
      refine p_aload_n dX10_finest_57 rfl 0 rfl ?_
      refine p_lay (c := 10) (tq := 100) (n := 4) dX10_finest_58 6 8 tb_233 (by decide) (by decide) h0 (by decide) (by decide) (fun _ => rfl) (vr 100 (a0 + 8) 4) rfl ?_
      refine p_aload_n dX10_finest_61 rfl 0 rfl ?_
      refine p_get (c := 10) (vi (h a0 7)) dX10_finest_62 7 tb_234 (by decide) (by decide) (Or.inl rfl) h0 rfl rfl ?_
      refine p_callVNi dX10_finest_65 M_X0_finestOf (Or.inl rfl) [vi v6, vi v2, vr 100 (a0 + 8) 4, vi (h a0 7)] (t_X0_finestOf _ _ _ _ _ _ _ _ c6 hf) ok_X0_finestOf rfl (c := 0) (by decide) c6 rfl tb_732 ⟨tb_734, ts_52⟩ rfl (Nat.le_of_ble_eq_true rfl) ⟨rfl, rfl⟩ ⟨by decide, by decide⟩ ⟨by decide, by decide⟩ (fun r7 h8 hf => ?_)
      refine p_istore (ls' := [(7, vi r7), (0, vr 10 a0 0), (2, vi v2), (3, vi v3), (4, vr 0 v4 0), (5, vi v5), (6, vi v6)]) dX10_finest_68 (by decide) rfl ?_
      refine p_iload dX10_finest_70 0 rfl ?_
      refine p_iconst dX10_finest_72 (by decide) ?_
      refine p_icmp_ne (tgt := 78) (q := r7 ≠ (-1)) dX10_finest_73 (by decide) Iff.rfl (fun hc => ?_) (fun hc => ?_)
      · replace hf := Eq.mp (if_pos hc) hf
        refine p_iload dX10_finest_78 6 rfl ?_
        refine p_iload_n dX10_finest_80 rfl 3 rfl ?_
        refine p_icmp_ne (tgt := 88) (q := v6 ≠ v3) dX10_finest_81 (by decide) Iff.rfl (fun hc => ?_) (fun hc => ?_)
        · replace hf := Eq.mp (if_pos hc) hf
          refine p_sub (ls' := [(0, vr 10 a0 0), (2, vi v2), (3, vi v3), (4, vr 0 v4 0), (5, vi v5), (6, vi v6)]) [1, 2, 3, 4, 5, 6] rfl ?_
          exact t_X10_finest_88 h0 ih _ _ _ _ _ _ hf
        · replace hf := Eq.mp (if_neg hc) hf
          refine p_iload dX10_finest_84 0 rfl ?_
          refine p_istore (ls' := [(5, vi r7), (7, vi r7), (0, vr 10 a0 0), (2, vi v2), (3, vi v3), (4, vr 0 v4 0), (6, vi v6)]) dX10_finest_86 (by decide) rfl ?_
          refine p_sub (ls' := [(0, vr 10 a0 0), (2, vi v2), (3, vi v3), (4, vr 0 v4 0), (5, vi r7), (6, vi v6)]) [2, 3, 4, 5, 0, 6] rfl ?_
          exact t_X10_finest_88 h0 ih _ _ _ _ _ _ hf
      · replace hf := Eq.mp (if_neg hc) hf
        refine p_iconst dX10_finest_76 (by decide) ?_
        exact p_iret dX10_finest_77 rfl (by decide) (by decide) (fun _ h => absurd h List.not_mem_nil) hf
def w_X10_finest (a0 x1 x2 x3 : Int) (h : Hh) (K : Int → Hh → Prop) : Prop := w_X10_chartAt a0 x1 h (fun r1 h2 => if r1 = -1 then (w_X10_finest_34 K  a0  h2) else (0 ≤ r1 ∧ (w_X0_hasPage r1 x3 h2 (fun r4 h5 => if r4 = 0 then (w_X10_finest_34 K  a0  h5) else (if x2 < 10 then (w_X10_finest_34 K  a0  h5) else (if x2 ≤ 30000 then (w_X10_finest_42 K  a0 NF x2 x3 r1 (-1) 0 h5) else (w_X10_finest_34 K  a0  h5)))))))
set_option maxRecDepth 100000 in
set_option maxHeartbeats 4000000 in
theorem t_X10_finest {G : Gx} (a0 x1 x2 x3 : Int) (h : Hh) (K : Int → Hh → Prop) (h0 : 0 ≤ a0) (hf : w_X10_finest a0 x1 x2 x3 h K) : CT G M_X10_finest rm_X10_finest 0 0 [] [vr 10 a0 0, vi x1, vi x2, vi x3] h K := by
  unfold w_X10_finest at hf
  refine CT.of (ls0 := [(0, vr 10 a0 0), (1, vi x1), (2, vi x2), (3, vi x3)]) (plainFor_of_name (by decide +kernel)) (by decide +kernel) (Nat.le_of_ble_eq_true rfl) rfl rfl ?_
  refine p_aload_n dX10_finest_0 rfl 0 rfl ?_
  refine p_iload_n dX10_finest_1 rfl 1 rfl ?_
  refine p_callVr (Cn := "ThreadCharts$Chart") dX10_finest_2 M_X10_chartAt rfl [vi x1] (t_X10_chartAt _ _ _ _ h0 hf) ok_X10_chartAt rfl (c := 10) (by decide) h0 rfl tb_575 ⟨tb_577, ts_29⟩ rfl (Nat.le_of_ble_eq_true rfl) ⟨rfl, rfl⟩ ⟨by decide, by decide⟩ ⟨by decide, by decide⟩ (fun r1 h2 hf => ?_)
  refine p_astore (ls' := [(4, vr 0 r1 0), (0, vr 10 a0 0), (1, vi x1), (2, vi x2), (3, vi x3)]) dX10_finest_5 (by decide) rfl ?_
  refine p_aload dX10_finest_7 0 rfl ?_
  refine p_ifnull (tgt := 34) dX10_finest_9 (by decide) (by decide) (fun hc => ?_) (fun hc => ?_)
  · replace hf := Eq.mp (if_pos hc) hf
    refine p_sub (ls' := []) [] rfl ?_
    exact t_X10_finest_34 h0   _ hf
  · replace hf := Eq.mp (if_neg hc) hf
    refine p_aload dX10_finest_12 0 rfl ?_
    refine p_iload_n dX10_finest_14 rfl 4 rfl ?_
    obtain ⟨c3, hf⟩ := hf
    refine p_callVNi dX10_finest_15 M_X0_hasPage (Or.inr rfl) [vi x3] (t_X0_hasPage _ _ _ _ c3 hf) ok_X0_hasPage rfl (c := 0) (by decide) c3 rfl tb_656 ⟨tb_569, ts_28⟩ rfl (Nat.le_of_ble_eq_true rfl) ⟨rfl, rfl⟩ ⟨by decide, by decide⟩ ⟨by decide, by decide⟩ (fun r4 h5 hf => ?_)
    refine p_if_eq (tgt := 34) (q := r4 = 0) dX10_finest_18 (by decide) Iff.rfl (fun hc => ?_) (fun hc => ?_)
    · replace hf := Eq.mp (if_pos hc) hf
      refine p_sub (ls' := []) [] rfl ?_
      exact t_X10_finest_34 h0   _ hf
    · replace hf := Eq.mp (if_neg hc) hf
      refine p_iload_n dX10_finest_21 rfl 3 rfl ?_
      refine p_bipush dX10_finest_22 (by decide) (by decide) ?_
      refine p_icmp_lt (tgt := 34) (q := x2 < 10) dX10_finest_24 (by decide) Iff.rfl (fun hc => ?_) (fun hc => ?_)
      · replace hf := Eq.mp (if_pos hc) hf
        refine p_sub (ls' := []) [] rfl ?_
        exact t_X10_finest_34 h0   _ hf
      · replace hf := Eq.mp (if_neg hc) hf
        refine p_iload_n dX10_finest_27 rfl 3 rfl ?_
        refine p_sipush dX10_finest_28 (by decide) (by decide) ?_
        refine p_icmp_le (tgt := 36) (q := x2 ≤ 30000) dX10_finest_31 (by decide) Iff.rfl (fun hc => ?_) (fun hc => ?_)
        · replace hf := Eq.mp (if_pos hc) hf
          refine p_iconst dX10_finest_36 (by decide) ?_
          refine p_istore (ls' := [(5, vi (-1)), (4, vr 0 r1 0), (0, vr 10 a0 0), (1, vi x1), (2, vi x2), (3, vi x3)]) dX10_finest_37 (by decide) rfl ?_
          refine p_iconst dX10_finest_39 (by decide) ?_
          refine p_istore (ls' := [(6, vi 0), (5, vi (-1)), (4, vr 0 r1 0), (0, vr 10 a0 0), (1, vi x1), (2, vi x2), (3, vi x3)]) dX10_finest_40 (by decide) rfl ?_
          refine p_sub (ls' := [(0, vr 10 a0 0), (2, vi x2), (3, vi x3), (4, vr 0 r1 0), (5, vi (-1)), (6, vi 0)]) [3, 5, 6, 2, 1, 0] rfl ?_
          refine t_X10_finest_42 h0  NF _ _ _ _ _ _ hf
        · replace hf := Eq.mp (if_neg hc) hf
          refine p_sub (ls' := []) [] rfl ?_
          exact t_X10_finest_34 h0   _ hf
theorem ok_X10_finest : mOK M_X10_finest 3 := ⟨tb_731, tb_1, by decide +kernel⟩
abbrev M_X10_isSwelling : MD := (yX10_isSwelling, cX10_isSwelling, 1, some .boolean)
abbrev rm_X10_isSwelling : Room := { frames := 0, cells := 0, slots := 0, locals := 0 }
def w_X10_isSwelling_17 (K : Int → Hh → Prop) (s0 : Int) (h : Hh) : Prop := (s0 = 0 ∨ s0 = 1) ∧ (K s0 h)
set_option maxRecDepth 100000 in
set_option maxHeartbeats 4000000 in
theorem t_X10_isSwelling_17 {G : Gx} {n0 : Int} {K : Int → Hh → Prop}  (s0 : Int) (h : Hh) (hf : w_X10_isSwelling_17 K   s0 h) : PW G M_X10_isSwelling rm_X10_isSwelling 0 0 [] n0 K 17 [] [vi s0] [] 0 0 h := by
  unfold w_X10_isSwelling_17 at hf
  obtain ⟨c1, hf⟩ := hf
  exact p_zret dX10_isSwelling_17 rfl (by decide) (by decide) (fun _ h => absurd h List.not_mem_nil) c1 hf
def w_X10_isSwelling_16 (K : Int → Hh → Prop) (h : Hh) : Prop := w_X10_isSwelling_17 K   0 h
set_option maxRecDepth 100000 in
set_option maxHeartbeats 4000000 in
theorem t_X10_isSwelling_16 {G : Gx} {n0 : Int} {K : Int → Hh → Prop}  (h : Hh) (hf : w_X10_isSwelling_16 K    h) : PW G M_X10_isSwelling rm_X10_isSwelling 0 0 [] n0 K 16 [] [] [] 0 0 h := by
  unfold w_X10_isSwelling_16 at hf
  refine p_iconst dX10_isSwelling_16 (by decide) ?_
  exact t_X10_isSwelling_17  _ _ hf
def w_X10_isSwelling (x0 : Int) (h : Hh) (K : Int → Hh → Prop) : Prop := if x0 < (-50) then (w_X10_isSwelling_16 K    h) else (if x0 > 50 then (w_X10_isSwelling_16 K    h) else (w_X10_isSwelling_17 K   1 h))
set_option maxRecDepth 100000 in
set_option maxHeartbeats 4000000 in
theorem t_X10_isSwelling {G : Gx} (x0 : Int) (h : Hh) (K : Int → Hh → Prop) (hf : w_X10_isSwelling x0 h K) : CT G M_X10_isSwelling rm_X10_isSwelling 0 0 [] [vi x0] h K := by
  unfold w_X10_isSwelling at hf
  refine CT.of (ls0 := [(0, vi x0)]) (plainFor_of_name (by decide +kernel)) (by decide +kernel) (Nat.le_of_ble_eq_true rfl) rfl rfl ?_
  refine p_iload_n dX10_isSwelling_0 rfl 0 rfl ?_
  refine p_bipush dX10_isSwelling_1 (by decide) (by decide) ?_
  refine p_icmp_lt (tgt := 16) (q := x0 < (-50)) dX10_isSwelling_3 (by decide) Iff.rfl (fun hc => ?_) (fun hc => ?_)
  · replace hf := Eq.mp (if_pos hc) hf
    refine p_sub (ls' := []) [] rfl ?_
    exact t_X10_isSwelling_16   _ hf
  · replace hf := Eq.mp (if_neg hc) hf
    refine p_iload_n dX10_isSwelling_6 rfl 0 rfl ?_
    refine p_bipush dX10_isSwelling_7 (by decide) (by decide) ?_
    refine p_icmp_gt (tgt := 16) (q := x0 > 50) dX10_isSwelling_9 (by decide) Iff.rfl (fun hc => ?_) (fun hc => ?_)
    · replace hf := Eq.mp (if_pos hc) hf
      refine p_sub (ls' := []) [] rfl ?_
      exact t_X10_isSwelling_16   _ hf
    · replace hf := Eq.mp (if_neg hc) hf
      refine p_iconst dX10_isSwelling_12 (by decide) ?_
      refine p_goto (tgt := 17) dX10_isSwelling_13 (by decide) ?_
      refine p_sub (ls' := []) [] rfl ?_
      exact t_X10_isSwelling_17  _ _ hf
theorem ok_X10_isSwelling : mOK M_X10_isSwelling 1 := ⟨tb_746, tb_1, by decide +kernel⟩
abbrev M_X10_paper : MD := (yX10_paper, cX10_paper, 6, some .boolean)
abbrev rm_X10_paper : Room := { frames := 1, cells := 0, slots := 0, locals := 23 }
def w_X10_paper_41 (K : Int → Hh → Prop) (a0 : Int) (h : Hh) : Prop := K 0 h
set_option maxRecDepth 100000 in
set_option maxHeartbeats 4000000 in
theorem t_X10_paper_41 {G : Gx} {n0 : Int} {K : Int → Hh → Prop} {a0 : Int} (h0 : 0 ≤ a0)  (h : Hh) (hf : w_X10_paper_41 K  a0  h) : PW G M_X10_paper rm_X10_paper 0 0 [] n0 K 41 [] [] [] 0 0 h := by
  unfold w_X10_paper_41 at hf
  refine p_iconst dX10_paper_41 (by decide) ?_
  exact p_zret dX10_paper_42 rfl (by decide) (by decide) (fun _ h => absurd h List.not_mem_nil) (Or.inl rfl) hf
def w_X10_paper (a0 x1 x2 x3 x4 : Int) (h : Hh) (K : Int → Hh → Prop) : Prop := w_X10_chartAt a0 x1 h (fun r1 h2 => if r1 = -1 then (w_X10_paper_41 K  a0  h2) else (if x2 < (-30000) then (w_X10_paper_41 K  a0  h2) else (if x2 > 30000 then (w_X10_paper_41 K  a0  h2) else (w_X10_isSwelling x3 h2 (fun r3 h4 => if r3 = 0 then (w_X10_paper_41 K  a0  h4) else (w_X10_isSwelling x4 h4 (fun r5 h6 => if r5 ≠ 0 then (0 ≤ r1 ∧ (w_X4_put (r1 + 6) x2 x3 x4 h6 (fun _ h8 => w_X6_forgetDues (a0 + 15) h8 (fun _ h9 => K 1 h9)))) else (w_X10_paper_41 K  a0  h6))))))))
set_option maxRecDepth 100000 in
set_option maxHeartbeats 4000000 in
theorem t_X10_paper {G : Gx} (a0 x1 x2 x3 x4 : Int) (h : Hh) (K : Int → Hh → Prop) (h0 : 0 ≤ a0) (hf : w_X10_paper a0 x1 x2 x3 x4 h K) : CT G M_X10_paper rm_X10_paper 0 0 [] [vr 10 a0 0, vi x1, vi x2, vi x3, vi x4] h K := by
  unfold w_X10_paper at hf
  refine CT.of (ls0 := [(0, vr 10 a0 0), (1, vi x1), (2, vi x2), (3, vi x3), (4, vi x4)]) (plainFor_of_name (by decide +kernel)) (by decide +kernel) (Nat.le_of_ble_eq_true rfl) rfl rfl ?_
  refine p_aload_n dX10_paper_0 rfl 0 rfl ?_
  refine p_iload_n dX10_paper_1 rfl 1 rfl ?_
  refine p_callVr (Cn := "ThreadCharts$Chart") dX10_paper_2 M_X10_chartAt rfl [vi x1] (t_X10_chartAt _ _ _ _ h0 hf) ok_X10_chartAt rfl (c := 10) (by decide) h0 rfl tb_575 ⟨tb_577, ts_29⟩ rfl (Nat.le_of_ble_eq_true rfl) ⟨rfl, rfl⟩ ⟨by decide, by decide⟩ ⟨by decide, by decide⟩ (fun r1 h2 hf => ?_)
  refine p_astore (ls' := [(5, vr 0 r1 0), (0, vr 10 a0 0), (1, vi x1), (2, vi x2), (3, vi x3), (4, vi x4)]) dX10_paper_5 (by decide) rfl ?_
  refine p_aload dX10_paper_7 0 rfl ?_
  refine p_ifnull (tgt := 41) dX10_paper_9 (by decide) (by decide) (fun hc => ?_) (fun hc => ?_)
  · replace hf := Eq.mp (if_pos hc) hf
    refine p_sub (ls' := []) [] rfl ?_
    exact t_X10_paper_41 h0   _ hf
  · replace hf := Eq.mp (if_neg hc) hf
    refine p_iload_n dX10_paper_12 rfl 3 rfl ?_
    refine p_sipush dX10_paper_13 (by decide) (by decide) ?_
    refine p_icmp_lt (tgt := 41) (q := x2 < (-30000)) dX10_paper_16 (by decide) Iff.rfl (fun hc => ?_) (fun hc => ?_)
    · replace hf := Eq.mp (if_pos hc) hf
      refine p_sub (ls' := []) [] rfl ?_
      exact t_X10_paper_41 h0   _ hf
    · replace hf := Eq.mp (if_neg hc) hf
      refine p_iload_n dX10_paper_19 rfl 3 rfl ?_
      refine p_sipush dX10_paper_20 (by decide) (by decide) ?_
      refine p_icmp_gt (tgt := 41) (q := x2 > 30000) dX10_paper_23 (by decide) Iff.rfl (fun hc => ?_) (fun hc => ?_)
      · replace hf := Eq.mp (if_pos hc) hf
        refine p_sub (ls' := []) [] rfl ?_
        exact t_X10_paper_41 h0   _ hf
      · replace hf := Eq.mp (if_neg hc) hf
        refine p_iload_n dX10_paper_26 rfl 4 rfl ?_
        refine p_callSi dX10_paper_27 M_X10_isSwelling (Or.inr rfl) [vi x3] (t_X10_isSwelling _ _ _ hf) ok_X10_isSwelling rfl tb_744 tb_745 rfl (Nat.le_of_ble_eq_true rfl) ⟨rfl, rfl⟩ ⟨by decide, by decide⟩ ⟨by decide, by decide⟩ (fun r3 h4 hf => ?_)
        refine p_if_eq (tgt := 41) (q := r3 = 0) dX10_paper_30 (by decide) Iff.rfl (fun hc => ?_) (fun hc => ?_)
        · replace hf := Eq.mp (if_pos hc) hf
          refine p_sub (ls' := []) [] rfl ?_
          exact t_X10_paper_41 h0   _ hf
        · replace hf := Eq.mp (if_neg hc) hf
          refine p_iload dX10_paper_33 5 rfl ?_
          refine p_callSi dX10_paper_35 M_X10_isSwelling (Or.inr rfl) [vi x4] (t_X10_isSwelling _ _ _ hf) ok_X10_isSwelling rfl tb_744 tb_745 rfl (Nat.le_of_ble_eq_true rfl) ⟨rfl, rfl⟩ ⟨by decide, by decide⟩ ⟨by decide, by decide⟩ (fun r5 h6 hf => ?_)
          refine p_if_ne (tgt := 43) (q := r5 ≠ 0) dX10_paper_38 (by decide) Iff.rfl (fun hc => ?_) (fun hc => ?_)
          · replace hf := Eq.mp (if_pos hc) hf
            refine p_aload dX10_paper_43 0 rfl ?_
            obtain ⟨c7, hf⟩ := hf
            refine p_layN (c := 0) (tq := 4) (n := 0) dX10_paper_45 10 6 tb_515 (by decide) (by decide) c7 (by decide) (by decide) (fun _ => rfl) (vr 4 (r1 + 6) 0) rfl ?_
            refine p_iload_n dX10_paper_48 rfl 3 rfl ?_
            refine p_iload_n dX10_paper_49 rfl 4 rfl ?_
            refine p_iload dX10_paper_50 5 rfl ?_
            refine p_callVNv dX10_paper_52 M_X4_put rfl [vi x2, vi x3, vi x4] (t_X4_put _ _ _ _ _ _ (nnk c7 (by decide)) hf) ok_X4_put rfl (c := 4) (by decide) (nnk c7 (by decide)) rfl tb_747 ⟨tb_749, ts_53⟩ rfl (Nat.le_of_ble_eq_true rfl) ⟨rfl, rfl⟩ ⟨by decide, by decide⟩ ⟨by decide, by decide⟩ (fun _ h8 hf => ?_)
            refine p_aload_n dX10_paper_55 rfl 1 rfl ?_
            refine p_lay (c := 10) (tq := 6) (n := 0) dX10_paper_56 12 15 tb_239 (by decide) (by decide) h0 (by decide) (by decide) (fun _ => rfl) (vr 6 (a0 + 15) 0) rfl ?_
            refine p_callVNv dX10_paper_59 M_X6_forgetDues rfl [] (t_X6_forgetDues _ _ _ (nnk h0 (by decide)) hf) ok_X6_forgetDues rfl (c := 6) (by decide) (nnk h0 (by decide)) rfl tb_751 ⟨tb_753, ts_54⟩ rfl (Nat.le_of_ble_eq_true rfl) ⟨rfl, rfl⟩ ⟨by decide, by decide⟩ ⟨by decide, by decide⟩ (fun _ h9 hf => ?_)
            refine p_iconst dX10_paper_62 (by decide) ?_
            exact p_zret dX10_paper_63 rfl (by decide) (by decide) (fun _ h => absurd h List.not_mem_nil) (Or.inr rfl) hf
          · replace hf := Eq.mp (if_neg hc) hf
            refine p_sub (ls' := []) [] rfl ?_
            exact t_X10_paper_41 h0   _ hf
theorem ok_X10_paper : mOK M_X10_paper 4 := ⟨tb_743, tb_1, by decide +kernel⟩
abbrev M_X10_swelled : MD := (yX10_swelled, cX10_swelled, 5, some .int)
abbrev rm_X10_swelled : Room := { frames := 2, cells := 0, slots := 0, locals := 55 }
def w_X10_swelled_26 (K : Int → Hh → Prop) (a0 : Int) (h : Hh) : Prop := K (-2147483648) h
set_option maxRecDepth 100000 in
set_option maxHeartbeats 4000000 in
theorem t_X10_swelled_26 {G : Gx} {n0 : Int} {K : Int → Hh → Prop} {a0 : Int} (h0 : 0 ≤ a0)  (h : Hh) (hf : w_X10_swelled_26 K  a0  h) : PW G M_X10_swelled rm_X10_swelled 0 0 [] n0 K 26 [] [] [] 0 0 h := by
  unfold w_X10_swelled_26 at hf
  refine p_ldc (z := (-2147483648)) dX10_swelled_26 tb_389 (by decide) ?_
  exact p_iret dX10_swelled_28 rfl (by decide) (by decide) (fun _ h => absurd h List.not_mem_nil) hf
def w_X10_swelled_56 (K : Int → Hh → Prop) (a0 : Int) (s0 : Int) (h : Hh) : Prop := K (w32 s0) h
set_option maxRecDepth 100000 in
set_option maxHeartbeats 4000000 in
theorem t_X10_swelled_56 {G : Gx} {n0 : Int} {K : Int → Hh → Prop} {a0 : Int} (h0 : 0 ≤ a0)  (s0 : Int) (h : Hh) (hf : w_X10_swelled_56 K  a0 s0 h) : PW G M_X10_swelled rm_X10_swelled 0 0 [] n0 K 56 [] [vl s0] [] 0 0 h := by
  unfold w_X10_swelled_56 at hf
  refine p_l2i dX10_swelled_56 ?_
  exact p_iret dX10_swelled_57 rfl (by decide) (by decide) (fun _ h => absurd h List.not_mem_nil) hf
def w_X10_swelled (a0 x1 x2 x3 : Int) (h : Hh) (K : Int → Hh → Prop) : Prop := w_X10_chartAt a0 x1 h (fun r1 h2 => if r1 = -1 then (w_X10_swelled_26 K  a0  h2) else (if x2 < (-100000) then (w_X10_swelled_26 K  a0  h2) else (if x2 ≤ 100000 then (if x3 = 0 then (0 ≤ r1 ∧ (w_X4_lies (r1 + 6) x2 h2 (fun r4 h5 => w_X10_swelled_56 K  a0 r4 h5))) else (0 ≤ r1 ∧ (w_X4_placeReadAt (r1 + 6) x2 h2 (fun r7 h8 => w_X10_swelled_56 K  a0 r7 h8)))) else (w_X10_swelled_26 K  a0  h2))))
set_option maxRecDepth 100000 in
set_option maxHeartbeats 4000000 in
theorem t_X10_swelled {G : Gx} (a0 x1 x2 x3 : Int) (h : Hh) (K : Int → Hh → Prop) (h0 : 0 ≤ a0) (hf : w_X10_swelled a0 x1 x2 x3 h K) : CT G M_X10_swelled rm_X10_swelled 0 0 [] [vr 10 a0 0, vi x1, vi x2, vi x3] h K := by
  unfold w_X10_swelled at hf
  refine CT.of (ls0 := [(0, vr 10 a0 0), (1, vi x1), (2, vi x2), (3, vi x3)]) (plainFor_of_name (by decide +kernel)) (by decide +kernel) (Nat.le_of_ble_eq_true rfl) rfl rfl ?_
  refine p_aload_n dX10_swelled_0 rfl 0 rfl ?_
  refine p_iload_n dX10_swelled_1 rfl 1 rfl ?_
  refine p_callVr (Cn := "ThreadCharts$Chart") dX10_swelled_2 M_X10_chartAt rfl [vi x1] (t_X10_chartAt _ _ _ _ h0 hf) ok_X10_chartAt rfl (c := 10) (by decide) h0 rfl tb_575 ⟨tb_577, ts_29⟩ rfl (Nat.le_of_ble_eq_true rfl) ⟨rfl, rfl⟩ ⟨by decide, by decide⟩ ⟨by decide, by decide⟩ (fun r1 h2 hf => ?_)
  refine p_astore (ls' := [(4, vr 0 r1 0), (0, vr 10 a0 0), (1, vi x1), (2, vi x2), (3, vi x3)]) dX10_swelled_5 (by decide) rfl ?_
  refine p_aload dX10_swelled_7 0 rfl ?_
  refine p_ifnull (tgt := 26) dX10_swelled_9 (by decide) (by decide) (fun hc => ?_) (fun hc => ?_)
  · replace hf := Eq.mp (if_pos hc) hf
    refine p_sub (ls' := []) [] rfl ?_
    exact t_X10_swelled_26 h0   _ hf
  · replace hf := Eq.mp (if_neg hc) hf
    refine p_iload_n dX10_swelled_12 rfl 3 rfl ?_
    refine p_ldcw (z := (-100000)) dX10_swelled_13 tb_759 (by decide) ?_
    refine p_icmp_lt (tgt := 26) (q := x2 < (-100000)) dX10_swelled_16 (by decide) Iff.rfl (fun hc => ?_) (fun hc => ?_)
    · replace hf := Eq.mp (if_pos hc) hf
      refine p_sub (ls' := []) [] rfl ?_
      exact t_X10_swelled_26 h0   _ hf
    · replace hf := Eq.mp (if_neg hc) hf
      refine p_iload_n dX10_swelled_19 rfl 3 rfl ?_
      refine p_ldcw (z := 100000) dX10_swelled_20 tb_760 (by decide) ?_
      refine p_icmp_le (tgt := 29) (q := x2 ≤ 100000) dX10_swelled_23 (by decide) Iff.rfl (fun hc => ?_) (fun hc => ?_)
      · replace hf := Eq.mp (if_pos hc) hf
        refine p_iload_n dX10_swelled_29 rfl 4 rfl ?_
        refine p_if_eq (tgt := 46) (q := x3 = 0) dX10_swelled_30 (by decide) Iff.rfl (fun hc => ?_) (fun hc => ?_)
        · replace hf := Eq.mp (if_pos hc) hf
          refine p_aload dX10_swelled_46 0 rfl ?_
          obtain ⟨c3, hf⟩ := hf
          refine p_layN (c := 0) (tq := 4) (n := 0) dX10_swelled_48 10 6 tb_515 (by decide) (by decide) c3 (by decide) (by decide) (fun _ => rfl) (vr 4 (r1 + 6) 0) rfl ?_
          refine p_iload_n dX10_swelled_51 rfl 3 rfl ?_
          refine p_i2l dX10_swelled_52 ?_
          refine p_callVNl dX10_swelled_53 M_X4_lies rfl [vl x2] (t_X4_lies _ _ _ _ (nnk c3 (by decide)) hf) ok_X4_lies rfl (c := 4) (by decide) (nnk c3 (by decide)) rfl tb_762 ⟨tb_612, ts_36⟩ rfl (Nat.le_of_ble_eq_true rfl) ⟨rfl, rfl⟩ ⟨by decide, by decide⟩ ⟨by decide, by decide⟩ (fun r4 h5 hf => ?_)
          refine p_sub (ls' := []) [] rfl ?_
          exact t_X10_swelled_56 h0  _ _ hf
        · replace hf := Eq.mp (if_neg hc) hf
          refine p_aload dX10_swelled_33 0 rfl ?_
          obtain ⟨c6, hf⟩ := hf
          refine p_layN (c := 0) (tq := 4) (n := 0) dX10_swelled_35 10 6 tb_515 (by decide) (by decide) c6 (by decide) (by decide) (fun _ => rfl) (vr 4 (r1 + 6) 0) rfl ?_
          refine p_iload_n dX10_swelled_38 rfl 3 rfl ?_
          refine p_i2l dX10_swelled_39 ?_
          refine p_callVNl dX10_swelled_40 M_X4_placeReadAt rfl [vl x2] (t_X4_placeReadAt _ _ _ _ (nnk c6 (by decide)) hf) ok_X4_placeReadAt rfl (c := 4) (by decide) (nnk c6 (by decide)) rfl tb_761 ⟨tb_626, ts_39⟩ rfl (Nat.le_of_ble_eq_true rfl) ⟨rfl, rfl⟩ ⟨by decide, by decide⟩ ⟨by decide, by decide⟩ (fun r7 h8 hf => ?_)
          refine p_goto (tgt := 56) dX10_swelled_43 (by decide) ?_
          refine p_sub (ls' := []) [] rfl ?_
          exact t_X10_swelled_56 h0  _ _ hf
      · replace hf := Eq.mp (if_neg hc) hf
        refine p_sub (ls' := []) [] rfl ?_
        exact t_X10_swelled_26 h0   _ hf
theorem ok_X10_swelled : mOK M_X10_swelled 3 := ⟨tb_758, tb_1, by decide +kernel⟩
abbrev M_X10_go : MD := (yX10_go, cX10_go, 2, some .int)
abbrev rm_X10_go : Room := { frames := 1, cells := 0, slots := 0, locals := 21 }
def w_X10_go_10 (K : Int → Hh → Prop) (a0 : Int) (h : Hh) : Prop := K (-1) h
set_option maxRecDepth 100000 in
set_option maxHeartbeats 4000000 in
theorem t_X10_go_10 {G : Gx} {n0 : Int} {K : Int → Hh → Prop} {a0 : Int} (h0 : 0 ≤ a0)  (h : Hh) (hf : w_X10_go_10 K  a0  h) : PW G M_X10_go rm_X10_go 0 0 [] n0 K 10 [] [] [] 0 0 h := by
  unfold w_X10_go_10 at hf
  refine p_iconst dX10_go_10 (by decide) ?_
  exact p_iret dX10_go_11 rfl (by decide) (by decide) (fun _ h => absurd h List.not_mem_nil) hf
def w_X10_go (a0 x1 : Int) (h : Hh) (K : Int → Hh → Prop) : Prop := if x1 < 0 then (w_X10_go_10 K  a0  h) else (if x1 ≤ 50 then (w_J9_min_7cf53 (w32 ((h a0 8) + x1)) 300 h (fun r1 h2 => hb (up h2 a0 8 r1) fun h3 => K (h3 a0 8) h3)) else (w_X10_go_10 K  a0  h))
set_option maxRecDepth 100000 in
set_option maxHeartbeats 4000000 in
theorem t_X10_go {G : Gx} (a0 x1 : Int) (h : Hh) (K : Int → Hh → Prop) (h0 : 0 ≤ a0) (hf : w_X10_go a0 x1 h K) : CT G M_X10_go rm_X10_go 0 0 [] [vr 10 a0 0, vi x1] h K := by
  unfold w_X10_go at hf
  refine CT.of (ls0 := [(0, vr 10 a0 0), (1, vi x1)]) (plainFor_of_name (by decide +kernel)) (by decide +kernel) (Nat.le_of_ble_eq_true rfl) rfl rfl ?_
  refine p_iload_n dX10_go_0 rfl 1 rfl ?_
  refine p_if_lt (tgt := 10) (q := x1 < 0) dX10_go_1 (by decide) Iff.rfl (fun hc => ?_) (fun hc => ?_)
  · replace hf := Eq.mp (if_pos hc) hf
    refine p_sub (ls' := []) [] rfl ?_
    exact t_X10_go_10 h0   _ hf
  · replace hf := Eq.mp (if_neg hc) hf
    refine p_iload_n dX10_go_4 rfl 1 rfl ?_
    refine p_bipush dX10_go_5 (by decide) (by decide) ?_
    refine p_icmp_le (tgt := 12) (q := x1 ≤ 50) dX10_go_7 (by decide) Iff.rfl (fun hc => ?_) (fun hc => ?_)
    · replace hf := Eq.mp (if_pos hc) hf
      refine p_aload_n dX10_go_12 rfl 0 rfl ?_
      refine p_aload_n dX10_go_13 rfl 0 rfl ?_
      refine p_get (c := 10) (vi (h a0 8)) dX10_go_14 8 tb_235 (by decide) (by decide) (Or.inl rfl) h0 rfl rfl ?_
      refine p_iload_n dX10_go_17 rfl 1 rfl ?_
      refine p_iadd dX10_go_18 ?_
      refine p_sipush dX10_go_19 (by decide) (by decide) ?_
      refine p_callSi dX10_go_22 M_J9_min_7cf53 (Or.inl rfl) [vi (w32 ((h a0 8) + x1)), vi 300] (t_J9_min_7cf53 _ _ _ _ hf) ok_J9_min_7cf53 rfl tb_767 tb_471 rfl (Nat.le_of_ble_eq_true rfl) ⟨rfl, rfl⟩ ⟨by decide, by decide⟩ ⟨by decide, by decide⟩ (fun r1 h2 hf => ?_)
      refine p_puti (c := 10) dX10_go_25 8 tb_235 (by decide) (by decide) (Or.inl rfl) h0 rfl rfl (fun _ => by decide) (up h2 a0 8 r1) rfl ?_
      replace hf := hb_e hf
      generalize up h2 a0 8 r1 = h3 at hf ⊢
      refine p_aload_n dX10_go_28 rfl 0 rfl ?_
      refine p_get (c := 10) (vi (h3 a0 8)) dX10_go_29 8 tb_235 (by decide) (by decide) (Or.inl rfl) h0 rfl rfl ?_
      exact p_iret dX10_go_32 rfl (by decide) (by decide) (fun _ h => absurd h List.not_mem_nil) hf
    · replace hf := Eq.mp (if_neg hc) hf
      refine p_sub (ls' := []) [] rfl ?_
      exact t_X10_go_10 h0   _ hf
theorem ok_X10_go : mOK M_X10_go 1 := ⟨tb_766, tb_1, by decide +kernel⟩
abbrev M_X10_move : MD := (yX10_move, cX10_move, 6, some .int)
abbrev rm_X10_move : Room := { frames := 2, cells := 0, slots := 0, locals := 45 }
def w_X10_move_40 (K : Int → Hh → Prop) (a0 : Int) (h : Hh) : Prop := K (-1) h
set_option maxRecDepth 100000 in
set_option maxHeartbeats 4000000 in
theorem t_X10_move_40 {G : Gx} {n0 : Int} {K : Int → Hh → Prop} {a0 : Int} (h0 : 0 ≤ a0)  (h : Hh) (hf : w_X10_move_40 K  a0  h) : PW G M_X10_move rm_X10_move 0 0 [] n0 K 40 [] [] [] 0 0 h := by
  unfold w_X10_move_40 at hf
  refine p_iconst dX10_move_40 (by decide) ?_
  exact p_iret dX10_move_41 rfl (by decide) (by decide) (fun _ h => absurd h List.not_mem_nil) hf
def w_X10_move_58 (K : Int → Hh → Prop) (a0 : Int) (h : Hh) : Prop := K (-1) h
set_option maxRecDepth 100000 in
set_option maxHeartbeats 4000000 in
theorem t_X10_move_58 {G : Gx} {n0 : Int} {K : Int → Hh → Prop} {a0 : Int} (h0 : 0 ≤ a0)  (h : Hh) (hf : w_X10_move_58 K  a0  h) : PW G M_X10_move rm_X10_move 0 0 [] n0 K 58 [] [] [] 0 0 h := by
  unfold w_X10_move_58 at hf
  refine p_iconst dX10_move_58 (by decide) ?_
  exact p_iret dX10_move_59 rfl (by decide) (by decide) (fun _ h => absurd h List.not_mem_nil) hf
def w_X10_move (a0 x1 x2 x3 x4 : Int) (h : Hh) (K : Int → Hh → Prop) : Prop := w_X10_chartAt a0 x1 h (fun r1 h2 => if r1 = -1 then (w_X10_move_40 K  a0  h2) else (if x2 < 1 then (w_X10_move_40 K  a0  h2) else (0 ≤ r1 ∧ (0 ≤ h2 r1 0 ∧ (w_X7_hasMark (h2 r1 0) x2 x3 h2 (fun r5 h6 => if r5 = 0 then (w_X10_move_40 K  a0  h6) else (w_X1_isFull (a0 + 9) h6 (fun r7 h8 => if r7 = 0 then (if x4 < (-99999) then (w_X10_move_58 K  a0  h8) else (if x4 ≤ 99999 then (w_X1_add (a0 + 9) x1 x2 x3 x4 (h8 a0 8) h8 (fun _ h9 => w_X6_forgetDues (a0 + 15) h9 (fun _ h10 => K (h10 (a0 + 9) 5) h10))) else (w_X10_move_58 K  a0  h8))) else (w_X10_move_40 K  a0  h8)))))))))
set_option maxRecDepth 100000 in
set_option maxHeartbeats 4000000 in
theorem t_X10_move {G : Gx} (a0 x1 x2 x3 x4 : Int) (h : Hh) (K : Int → Hh → Prop) (h0 : 0 ≤ a0) (hf : w_X10_move a0 x1 x2 x3 x4 h K) : CT G M_X10_move rm_X10_move 0 0 [] [vr 10 a0 0, vi x1, vi x2, vi x3, vi x4] h K := by
  unfold w_X10_move at hf
  refine CT.of (ls0 := [(0, vr 10 a0 0), (1, vi x1), (2, vi x2), (3, vi x3), (4, vi x4)]) (plainFor_of_name (by decide +kernel)) (by decide +kernel) (Nat.le_of_ble_eq_true rfl) rfl rfl ?_
  refine p_aload_n dX10_move_0 rfl 0 rfl ?_
  refine p_iload_n dX10_move_1 rfl 1 rfl ?_
  refine p_callVr (Cn := "ThreadCharts$Chart") dX10_move_2 M_X10_chartAt rfl [vi x1] (t_X10_chartAt _ _ _ _ h0 hf) ok_X10_chartAt rfl (c := 10) (by decide) h0 rfl tb_575 ⟨tb_577, ts_29⟩ rfl (Nat.le_of_ble_eq_true rfl) ⟨rfl, rfl⟩ ⟨by decide, by decide⟩ ⟨by decide, by decide⟩ (fun r1 h2 hf => ?_)
  refine p_astore (ls' := [(5, vr 0 r1 0), (0, vr 10 a0 0), (1, vi x1), (2, vi x2), (3, vi x3), (4, vi x4)]) dX10_move_5 (by decide) rfl ?_
  refine p_aload dX10_move_7 0 rfl ?_
  refine p_ifnull (tgt := 40) dX10_move_9 (by decide) (by decide) (fun hc => ?_) (fun hc => ?_)
  · replace hf := Eq.mp (if_pos hc) hf
    refine p_sub (ls' := []) [] rfl ?_
    exact t_X10_move_40 h0   _ hf
  · replace hf := Eq.mp (if_neg hc) hf
    refine p_iload_n dX10_move_12 rfl 3 rfl ?_
    refine p_iconst dX10_move_13 (by decide) ?_
    refine p_icmp_lt (tgt := 40) (q := x2 < 1) dX10_move_14 (by decide) Iff.rfl (fun hc => ?_) (fun hc => ?_)
    · replace hf := Eq.mp (if_pos hc) hf
      refine p_sub (ls' := []) [] rfl ?_
      exact t_X10_move_40 h0   _ hf
    · replace hf := Eq.mp (if_neg hc) hf
      refine p_aload dX10_move_17 0 rfl ?_
      obtain ⟨c3, hf⟩ := hf
      refine p_getN (c := 0) (vr 7 (h2 r1 0) 0) dX10_move_19 0 tb_491 (by decide) (by decide) (Or.inl rfl) c3 rfl rfl ?_
      refine p_iload_n dX10_move_22 rfl 3 rfl ?_
      refine p_iload_n dX10_move_23 rfl 4 rfl ?_
      obtain ⟨c4, hf⟩ := hf
      refine p_callVNi dX10_move_24 M_X7_hasMark (Or.inr rfl) [vi x2, vi x3] (t_X7_hasMark _ _ _ _ _ c4 hf) ok_X7_hasMark rfl (c := 7) (by decide) c4 rfl tb_441 ⟨tb_443, ts_18⟩ rfl (Nat.le_of_ble_eq_true rfl) ⟨rfl, rfl⟩ ⟨by decide, by decide⟩ ⟨by decide, by decide⟩ (fun r5 h6 hf => ?_)
      refine p_if_eq (tgt := 40) (q := r5 = 0) dX10_move_27 (by decide) Iff.rfl (fun hc => ?_) (fun hc => ?_)
      · replace hf := Eq.mp (if_pos hc) hf
        refine p_sub (ls' := []) [] rfl ?_
        exact t_X10_move_40 h0   _ hf
      · replace hf := Eq.mp (if_neg hc) hf
        refine p_aload_n dX10_move_30 rfl 1 rfl ?_
        refine p_lay (c := 10) (tq := 1) (n := 0) dX10_move_31 11 9 tb_238 (by decide) (by decide) h0 (by decide) (by decide) (fun _ => rfl) (vr 1 (a0 + 9) 0) rfl ?_
        refine p_callVNi dX10_move_34 M_X1_isFull (Or.inr rfl) [] (t_X1_isFull _ _ _ (nnk h0 (by decide)) hf) ok_X1_isFull rfl (c := 1) (by decide) (nnk h0 (by decide)) rfl tb_772 ⟨tb_774, ts_55⟩ rfl (Nat.le_of_ble_eq_true rfl) ⟨rfl, rfl⟩ ⟨by decide, by decide⟩ ⟨by decide, by decide⟩ (fun r7 h8 hf => ?_)
        refine p_if_eq (tgt := 42) (q := r7 = 0) dX10_move_37 (by decide) Iff.rfl (fun hc => ?_) (fun hc => ?_)
        · replace hf := Eq.mp (if_pos hc) hf
          refine p_iload dX10_move_42 5 rfl ?_
          refine p_ldcw (z := (-99999)) dX10_move_44 tb_776 (by decide) ?_
          refine p_icmp_lt (tgt := 58) (q := x4 < (-99999)) dX10_move_47 (by decide) Iff.rfl (fun hc => ?_) (fun hc => ?_)
          · replace hf := Eq.mp (if_pos hc) hf
            refine p_sub (ls' := []) [] rfl ?_
            exact t_X10_move_58 h0   _ hf
          · replace hf := Eq.mp (if_neg hc) hf
            refine p_iload dX10_move_50 5 rfl ?_
            refine p_ldcw (z := 99999) dX10_move_52 tb_777 (by decide) ?_
            refine p_icmp_le (tgt := 60) (q := x4 ≤ 99999) dX10_move_55 (by decide) Iff.rfl (fun hc => ?_) (fun hc => ?_)
            · replace hf := Eq.mp (if_pos hc) hf
              refine p_aload_n dX10_move_60 rfl 1 rfl ?_
              refine p_lay (c := 10) (tq := 1) (n := 0) dX10_move_61 11 9 tb_238 (by decide) (by decide) h0 (by decide) (by decide) (fun _ => rfl) (vr 1 (a0 + 9) 0) rfl ?_
              refine p_iload_n dX10_move_64 rfl 2 rfl ?_
              refine p_iload_n dX10_move_65 rfl 3 rfl ?_
              refine p_iload_n dX10_move_66 rfl 4 rfl ?_
              refine p_iload dX10_move_67 5 rfl ?_
              refine p_aload_n dX10_move_69 rfl 1 rfl ?_
              refine p_get (c := 10) (vi (h8 a0 8)) dX10_move_70 8 tb_235 (by decide) (by decide) (Or.inl rfl) h0 rfl rfl ?_
              refine p_callVNv dX10_move_73 M_X1_add rfl [vi x1, vi x2, vi x3, vi x4, vi (h8 a0 8)] (t_X1_add _ _ _ _ _ _ _ _ (nnk h0 (by decide)) hf) ok_X1_add rfl (c := 1) (by decide) (nnk h0 (by decide)) rfl tb_778 ⟨tb_780, ts_56⟩ rfl (Nat.le_of_ble_eq_true rfl) ⟨rfl, rfl⟩ ⟨by decide, by decide⟩ ⟨by decide, by decide⟩ (fun _ h9 hf => ?_)
              refine p_aload_n dX10_move_76 rfl 1 rfl ?_
              refine p_lay (c := 10) (tq := 6) (n := 0) dX10_move_77 12 15 tb_239 (by decide) (by decide) h0 (by decide) (by decide) (fun _ => rfl) (vr 6 (a0 + 15) 0) rfl ?_
              refine p_callVNv dX10_move_80 M_X6_forgetDues rfl [] (t_X6_forgetDues _ _ _ (nnk h0 (by decide)) hf) ok_X6_forgetDues rfl (c := 6) (by decide) (nnk h0 (by decide)) rfl tb_751 ⟨tb_753, ts_54⟩ rfl (Nat.le_of_ble_eq_true rfl) ⟨rfl, rfl⟩ ⟨by decide, by decide⟩ ⟨by decide, by decide⟩ (fun _ h10 hf => ?_)
              refine p_aload_n dX10_move_83 rfl 1 rfl ?_
              refine p_lay (c := 10) (tq := 1) (n := 0) dX10_move_84 11 9 tb_238 (by decide) (by decide) h0 (by decide) (by decide) (fun _ => rfl) (vr 1 (a0 + 9) 0) rfl ?_
              refine p_getN (c := 1) (vi (h10 (a0 + 9) 5)) dX10_move_87 5 tb_92 (by decide) (by decide) (Or.inl rfl) (nnk h0 (by decide)) rfl rfl ?_
              exact p_iret dX10_move_90 rfl (by decide) (by decide) (fun _ h => absurd h List.not_mem_nil) hf
            · replace hf := Eq.mp (if_neg hc) hf
              refine p_sub (ls' := []) [] rfl ?_
              exact t_X10_move_58 h0   _ hf
        · replace hf := Eq.mp (if_neg hc) hf
          refine p_sub (ls' := []) [] rfl ?_
          exact t_X10_move_40 h0   _ hf
theorem ok_X10_move : mOK M_X10_move 4 := ⟨tb_771, tb_1, by decide +kernel⟩
abbrev M_X10_isReader : MD := (yX10_isReader, cX10_isReader, 1, some .boolean)
abbrev rm_X10_isReader : Room := { frames := 0, cells := 0, slots := 0, locals := 0 }
def w_X10_isReader_15 (K : Int → Hh → Prop) (s0 : Int) (h : Hh) : Prop := (s0 = 0 ∨ s0 = 1) ∧ (K s0 h)
set_option maxRecDepth 100000 in
set_option maxHeartbeats 4000000 in
theorem t_X10_isReader_15 {G : Gx} {n0 : Int} {K : Int → Hh → Prop}  (s0 : Int) (h : Hh) (hf : w_X10_isReader_15 K   s0 h) : PW G M_X10_isReader rm_X10_isReader 0 0 [] n0 K 15 [] [vi s0] [] 0 0 h := by
  unfold w_X10_isReader_15 at hf
  obtain ⟨c1, hf⟩ := hf
  exact p_zret dX10_isReader_15 rfl (by decide) (by decide) (fun _ h => absurd h List.not_mem_nil) c1 hf
def w_X10_isReader_14 (K : Int → Hh → Prop) (h : Hh) : Prop := w_X10_isReader_15 K   0 h
set_option maxRecDepth 100000 in
set_option maxHeartbeats 4000000 in
theorem t_X10_isReader_14 {G : Gx} {n0 : Int} {K : Int → Hh → Prop}  (h : Hh) (hf : w_X10_isReader_14 K    h) : PW G M_X10_isReader rm_X10_isReader 0 0 [] n0 K 14 [] [] [] 0 0 h := by
  unfold w_X10_isReader_14 at hf
  refine p_iconst dX10_isReader_14 (by decide) ?_
  exact t_X10_isReader_15  _ _ hf
def w_X10_isReader (x0 : Int) (h : Hh) (K : Int → Hh → Prop) : Prop := if x0 < 0 then (w_X10_isReader_14 K    h) else (if x0 > 7 then (w_X10_isReader_14 K    h) else (w_X10_isReader_15 K   1 h))
set_option maxRecDepth 100000 in
set_option maxHeartbeats 4000000 in
theorem t_X10_isReader {G : Gx} (x0 : Int) (h : Hh) (K : Int → Hh → Prop) (hf : w_X10_isReader x0 h K) : CT G M_X10_isReader rm_X10_isReader 0 0 [] [vi x0] h K := by
  unfold w_X10_isReader at hf
  refine CT.of (ls0 := [(0, vi x0)]) (plainFor_of_name (by decide +kernel)) (by decide +kernel) (Nat.le_of_ble_eq_true rfl) rfl rfl ?_
  refine p_iload_n dX10_isReader_0 rfl 0 rfl ?_
  refine p_if_lt (tgt := 14) (q := x0 < 0) dX10_isReader_1 (by decide) Iff.rfl (fun hc => ?_) (fun hc => ?_)
  · replace hf := Eq.mp (if_pos hc) hf
    refine p_sub (ls' := []) [] rfl ?_
    exact t_X10_isReader_14   _ hf
  · replace hf := Eq.mp (if_neg hc) hf
    refine p_iload_n dX10_isReader_4 rfl 0 rfl ?_
    refine p_bipush dX10_isReader_5 (by decide) (by decide) ?_
    refine p_icmp_gt (tgt := 14) (q := x0 > 7) dX10_isReader_7 (by decide) Iff.rfl (fun hc => ?_) (fun hc => ?_)
    · replace hf := Eq.mp (if_pos hc) hf
      refine p_sub (ls' := []) [] rfl ?_
      exact t_X10_isReader_14   _ hf
    · replace hf := Eq.mp (if_neg hc) hf
      refine p_iconst dX10_isReader_10 (by decide) ?_
      refine p_goto (tgt := 15) dX10_isReader_11 (by decide) ?_
      refine p_sub (ls' := []) [] rfl ?_
      exact t_X10_isReader_15  _ _ hf
theorem ok_X10_isReader : mOK M_X10_isReader 1 := ⟨tb_789, tb_1, by decide +kernel⟩
abbrev M_X10_report : MD := (yX10_report, cX10_report, 4, some .int)
abbrev rm_X10_report : Room := { frames := 2, cells := 0, slots := 0, locals := 45 }
def w_X10_report_37 (K : Int → Hh → Prop) (a0 : Int) (h : Hh) : Prop := K (-1) h
set_option maxRecDepth 100000 in
set_option maxHeartbeats 4000000 in
theorem t_X10_report_37 {G : Gx} {n0 : Int} {K : Int → Hh → Prop} {a0 : Int} (h0 : 0 ≤ a0)  (h : Hh) (hf : w_X10_report_37 K  a0  h) : PW G M_X10_report rm_X10_report 0 0 [] n0 K 37 [] [] [] 0 0 h := by
  unfold w_X10_report_37 at hf
  refine p_iconst dX10_report_37 (by decide) ?_
  exact p_iret dX10_report_38 rfl (by decide) (by decide) (fun _ h => absurd h List.not_mem_nil) hf
def w_X10_report (a0 x1 x2 : Int) (h : Hh) (K : Int → Hh → Prop) : Prop := if h a0 9 = -1 then (w_X10_report_37 K  a0  h) else (w_X10_isReader x1 h (fun r1 h2 => if r1 = 0 then (w_X10_report_37 K  a0  h2) else (if x2 < 0 then (w_X10_report_37 K  a0  h2) else (if x2 > 399 then (w_X10_report_37 K  a0  h2) else (w_X6_isFull (a0 + 15) h2 (fun r3 h4 => if r3 = 0 then (0 ≤ h a0 9 ∧ (w_X6_add (a0 + 15) x1 (h4 (h a0 9) 1) (h4 a0 10) x2 (h4 a0 8) h4 (fun _ h6 => K (h6 (a0 + 15) 7) h6))) else (w_X10_report_37 K  a0  h4)))))))
set_option maxRecDepth 100000 in
set_option maxHeartbeats 4000000 in
theorem t_X10_report {G : Gx} (a0 x1 x2 : Int) (h : Hh) (K : Int → Hh → Prop) (h0 : 0 ≤ a0) (hf : w_X10_report a0 x1 x2 h K) : CT G M_X10_report rm_X10_report 0 0 [] [vr 10 a0 0, vi x1, vi x2] h K := by
  unfold w_X10_report at hf
  refine CT.of (ls0 := [(0, vr 10 a0 0), (1, vi x1), (2, vi x2)]) (plainFor_of_name (by decide +kernel)) (by decide +kernel) (Nat.le_of_ble_eq_true rfl) rfl rfl ?_
  refine p_aload_n dX10_report_0 rfl 0 rfl ?_
  refine p_get (c := 10) (vr 0 (h a0 9) 0) dX10_report_1 9 tb_236 (by decide) (by decide) (Or.inl rfl) h0 rfl rfl ?_
  refine p_astore_n (ls' := [(3, vr 0 (h a0 9) 0), (0, vr 10 a0 0), (1, vi x1), (2, vi x2)]) dX10_report_4 rfl (by decide) rfl ?_
  refine p_aload_n dX10_report_5 rfl 0 rfl ?_
  refine p_ifnull (tgt := 37) dX10_report_6 (by decide) (by decide) (fun hc => ?_) (fun hc => ?_)
  · replace hf := Eq.mp (if_pos hc) hf
    refine p_sub (ls' := []) [] rfl ?_
    exact t_X10_report_37 h0   _ hf
  · replace hf := Eq.mp (if_neg hc) hf
    refine p_iload_n dX10_report_9 rfl 2 rfl ?_
    refine p_callSi dX10_report_10 M_X10_isReader (Or.inr rfl) [vi x1] (t_X10_isReader _ _ _ hf) ok_X10_isReader rfl tb_787 tb_788 rfl (Nat.le_of_ble_eq_true rfl) ⟨rfl, rfl⟩ ⟨by decide, by decide⟩ ⟨by decide, by decide⟩ (fun r1 h2 hf => ?_)
    refine p_if_eq (tgt := 37) (q := r1 = 0) dX10_report_13 (by decide) Iff.rfl (fun hc => ?_) (fun hc => ?_)
    · replace hf := Eq.mp (if_pos hc) hf
      refine p_sub (ls' := []) [] rfl ?_
      exact t_X10_report_37 h0   _ hf
    · replace hf := Eq.mp (if_neg hc) hf
      refine p_iload_n dX10_report_16 rfl 3 rfl ?_
      refine p_if_lt (tgt := 37) (q := x2 < 0) dX10_report_17 (by decide) Iff.rfl (fun hc => ?_) (fun hc => ?_)
      · replace hf := Eq.mp (if_pos hc) hf
        refine p_sub (ls' := []) [] rfl ?_
        exact t_X10_report_37 h0   _ hf
      · replace hf := Eq.mp (if_neg hc) hf
        refine p_iload_n dX10_report_20 rfl 3 rfl ?_
        refine p_sipush dX10_report_21 (by decide) (by decide) ?_
        refine p_icmp_gt (tgt := 37) (q := x2 > 399) dX10_report_24 (by decide) Iff.rfl (fun hc => ?_) (fun hc => ?_)
        · replace hf := Eq.mp (if_pos hc) hf
          refine p_sub (ls' := []) [] rfl ?_
          exact t_X10_report_37 h0   _ hf
        · replace hf := Eq.mp (if_neg hc) hf
          refine p_aload_n dX10_report_27 rfl 1 rfl ?_
          refine p_lay (c := 10) (tq := 6) (n := 0) dX10_report_28 12 15 tb_239 (by decide) (by decide) h0 (by decide) (by decide) (fun _ => rfl) (vr 6 (a0 + 15) 0) rfl ?_
          refine p_callVNi dX10_report_31 M_X6_isFull (Or.inr rfl) [] (t_X6_isFull _ _ _ (nnk h0 (by decide)) hf) ok_X6_isFull rfl (c := 6) (by decide) (nnk h0 (by decide)) rfl tb_790 ⟨tb_792, ts_57⟩ rfl (Nat.le_of_ble_eq_true rfl) ⟨rfl, rfl⟩ ⟨by decide, by decide⟩ ⟨by decide, by decide⟩ (fun r3 h4 hf => ?_)
          refine p_if_eq (tgt := 39) (q := r3 = 0) dX10_report_34 (by decide) Iff.rfl (fun hc => ?_) (fun hc => ?_)
          · replace hf := Eq.mp (if_pos hc) hf
            refine p_aload_n dX10_report_39 rfl 1 rfl ?_
            refine p_lay (c := 10) (tq := 6) (n := 0) dX10_report_40 12 15 tb_239 (by decide) (by decide) h0 (by decide) (by decide) (fun _ => rfl) (vr 6 (a0 + 15) 0) rfl ?_
            refine p_iload_n dX10_report_43 rfl 2 rfl ?_
            refine p_aload_n dX10_report_44 rfl 0 rfl ?_
            obtain ⟨c5, hf⟩ := hf
            refine p_getN (c := 0) (vi (h4 (h a0 9) 1)) dX10_report_45 1 tb_493 (by decide) (by decide) (Or.inl rfl) c5 rfl rfl ?_
            refine p_aload_n dX10_report_48 rfl 1 rfl ?_
            refine p_get (c := 10) (vi (h4 a0 10)) dX10_report_49 10 tb_237 (by decide) (by decide) (Or.inl rfl) h0 rfl rfl ?_
            refine p_iload_n dX10_report_52 rfl 3 rfl ?_
            refine p_aload_n dX10_report_53 rfl 1 rfl ?_
            refine p_get (c := 10) (vi (h4 a0 8)) dX10_report_54 8 tb_235 (by decide) (by decide) (Or.inl rfl) h0 rfl rfl ?_
            refine p_callVNv dX10_report_57 M_X6_add rfl [vi x1, vi (h4 (h a0 9) 1), vi (h4 a0 10), vi x2, vi (h4 a0 8)] (t_X6_add _ _ _ _ _ _ _ _ (nnk h0 (by decide)) hf) ok_X6_add rfl (c := 6) (by decide) (nnk h0 (by decide)) rfl tb_794 ⟨tb_796, ts_58⟩ rfl (Nat.le_of_ble_eq_true rfl) ⟨rfl, rfl⟩ ⟨by decide, by decide⟩ ⟨by decide, by decide⟩ (fun _ h6 hf => ?_)
            refine p_aload_n dX10_report_60 rfl 1 rfl ?_
            refine p_lay (c := 10) (tq := 6) (n := 0) dX10_report_61 12 15 tb_239 (by decide) (by decide) h0 (by decide) (by decide) (fun _ => rfl) (vr 6 (a0 + 15) 0) rfl ?_
            refine p_getN (c := 6) (vi (h6 (a0 + 15) 7)) dX10_report_64 7 tb_124 (by decide) (by decide) (Or.inl rfl) (nnk h0 (by decide)) rfl rfl ?_
            exact p_iret dX10_report_67 rfl (by decide) (by decide) (fun _ h => absurd h List.not_mem_nil) hf
          · replace hf := Eq.mp (if_neg hc) hf
            refine p_sub (ls' := []) [] rfl ?_
            exact t_X10_report_37 h0   _ hf
theorem ok_X10_report : mOK M_X10_report 2 := ⟨tb_786, tb_1, by decide +kernel⟩
abbrev M_X10_isBound : MD := (yX10_isBound, cX10_isBound, 1, some .boolean)
abbrev rm_X10_isBound : Room := { frames := 0, cells := 0, slots := 0, locals := 0 }
def w_X10_isBound_15 (K : Int → Hh → Prop) (s0 : Int) (h : Hh) : Prop := (s0 = 0 ∨ s0 = 1) ∧ (K s0 h)
set_option maxRecDepth 100000 in
set_option maxHeartbeats 4000000 in
theorem t_X10_isBound_15 {G : Gx} {n0 : Int} {K : Int → Hh → Prop}  (s0 : Int) (h : Hh) (hf : w_X10_isBound_15 K   s0 h) : PW G M_X10_isBound rm_X10_isBound 0 0 [] n0 K 15 [] [vi s0] [] 0 0 h := by
  unfold w_X10_isBound_15 at hf
  obtain ⟨c1, hf⟩ := hf
  exact p_zret dX10_isBound_15 rfl (by decide) (by decide) (fun _ h => absurd h List.not_mem_nil) c1 hf
def w_X10_isBound_14 (K : Int → Hh → Prop) (h : Hh) : Prop := w_X10_isBound_15 K   0 h
set_option maxRecDepth 100000 in
set_option maxHeartbeats 4000000 in
theorem t_X10_isBound_14 {G : Gx} {n0 : Int} {K : Int → Hh → Prop}  (h : Hh) (hf : w_X10_isBound_14 K    h) : PW G M_X10_isBound rm_X10_isBound 0 0 [] n0 K 14 [] [] [] 0 0 h := by
  unfold w_X10_isBound_14 at hf
  refine p_iconst dX10_isBound_14 (by decide) ?_
  exact t_X10_isBound_15  _ _ hf
def w_X10_isBound (x0 : Int) (h : Hh) (K : Int → Hh → Prop) : Prop := if x0 < 0 then (w_X10_isBound_14 K    h) else (if x0 > 20 then (w_X10_isBound_14 K    h) else (w_X10_isBound_15 K   1 h))
set_option maxRecDepth 100000 in
set_option maxHeartbeats 4000000 in
theorem t_X10_isBound {G : Gx} (x0 : Int) (h : Hh) (K : Int → Hh → Prop) (hf : w_X10_isBound x0 h K) : CT G M_X10_isBound rm_X10_isBound 0 0 [] [vi x0] h K := by
  unfold w_X10_isBound at hf
  refine CT.of (ls0 := [(0, vi x0)]) (plainFor_of_name (by decide +kernel)) (by decide +kernel) (Nat.le_of_ble_eq_true rfl) rfl rfl ?_
  refine p_iload_n dX10_isBound_0 rfl 0 rfl ?_
  refine p_if_lt (tgt := 14) (q := x0 < 0) dX10_isBound_1 (by decide) Iff.rfl (fun hc => ?_) (fun hc => ?_)
  · replace hf := Eq.mp (if_pos hc) hf
    refine p_sub (ls' := []) [] rfl ?_
    exact t_X10_isBound_14   _ hf
  · replace hf := Eq.mp (if_neg hc) hf
    refine p_iload_n dX10_isBound_4 rfl 0 rfl ?_
    refine p_bipush dX10_isBound_5 (by decide) (by decide) ?_
    refine p_icmp_gt (tgt := 14) (q := x0 > 20) dX10_isBound_7 (by decide) Iff.rfl (fun hc => ?_) (fun hc => ?_)
    · replace hf := Eq.mp (if_pos hc) hf
      refine p_sub (ls' := []) [] rfl ?_
      exact t_X10_isBound_14   _ hf
    · replace hf := Eq.mp (if_neg hc) hf
      refine p_iconst dX10_isBound_10 (by decide) ?_
      refine p_goto (tgt := 15) dX10_isBound_11 (by decide) ?_
      refine p_sub (ls' := []) [] rfl ?_
      exact t_X10_isBound_15  _ _ hf
theorem ok_X10_isBound : mOK M_X10_isBound 1 := ⟨tb_809, tb_1, by decide +kernel⟩
abbrev M_X10_refreshDues : MD := (yX10_refreshDues, cX10_refreshDues, 3, none)
abbrev rm_X10_refreshDues : Room := { frames := 5, cells := 0, slots := 0, locals := 122 }
def w_X10_refreshDues_79 (K : Int → Hh → Prop) (B : Int → Hh → Prop) (a0 : Int) (v1 s0 s1 s2 s2n : Int) (h : Hh) : Prop := 0 ≤ s2 ∧ (((0 : Int) ≤ s1 ∧ (s1 : Int) < s2n) ∧ (hb (up h s2 s1 s0) fun h14 => vb (w32 (v1 + 1)) fun z15 => B z15 h14))
set_option maxRecDepth 100000 in
set_option maxHeartbeats 4000000 in
theorem t_X10_refreshDues_79 {G : Gx} {n0 : Int} {K : Int → Hh → Prop} {B : Int → Hh → Prop} {a0 : Int} (h0 : 0 ≤ a0) (hB : ∀ (v1 : Int) (h : Hh), B v1 h → PW G M_X10_refreshDues rm_X10_refreshDues 0 0 [] n0 K 8 [(0, vr 10 a0 0), (1, vi v1)] [] [] 0 0 h)  (v1 s0 s1 s2 s2n : Int) (h : Hh) (hf : w_X10_refreshDues_79 K B a0 v1 s0 s1 s2 s2n h) : PW G M_X10_refreshDues rm_X10_refreshDues 0 0 [] n0 K 79 [(0, vr 10 a0 0), (1, vi v1)] [vi s0, vi s1, vr 100 s2 s2n] [] 0 0 h := by
  unfold w_X10_refreshDues_79 at hf
  obtain ⟨c12, hf⟩ := hf
  obtain ⟨c13, hf⟩ := hf
  refine p_iast dX10_refreshDues_79 c12 c13 ?_
  replace hf := hb_e hf
  generalize up h s2 s1 s0 = h14 at hf ⊢
  refine p_iinc (ls' := [(1, vi (w32 (v1 + 1))), (0, vr 10 a0 0)]) dX10_refreshDues_80 1 rfl (by decide) rfl ?_
  replace hf := vb_e hf
  generalize w32 (v1 + 1) = z15 at hf ⊢
  refine p_goto (tgt := 8) dX10_refreshDues_83 (by decide) ?_
  refine p_sub (ls' := [(0, vr 10 a0 0), (1, vi z15)]) [1, 0] rfl ?_
  exact hB _ _ hf
def w_X10_refreshDues_8 (K : Int → Hh → Prop) (a0 : Int) : Nat → Int → Hh → Prop
  | 0, _, _ => False
  | n + 1, v1, h => if v1 ≥ h (a0 + 15) 7 then (hb (up h (a0 + 15) 8 (h (a0 + 15) 7)) fun h2 => K 0 h2) else (((0 : Int) ≤ v1 ∧ (v1 : Int) < 60) ∧ (w_X10_chartAt a0 (h (a0 + 15 + 2) v1) h (fun r4 h5 => if r4 ≠ -1 then (0 ≤ r4 ∧ (w_X10_readAsKnown a0 r4 (h5 (a0 + 15 + 3) v1) (h5 (a0 + 15 + 5) v1) h5 (fun r7 h8 => 0 ≤ h5 r4 0 ∧ (w_X7_tenthsOf (h5 r4 0) r7 h8 (fun r10 h11 => w_X10_refreshDues_79 K (w_X10_refreshDues_8 K  a0 n) a0 v1 r10 v1 (a0 + 15 + 6) 60 h11))))) else (w_X10_refreshDues_79 K (w_X10_refreshDues_8 K  a0 n) a0 v1 (-1) v1 (a0 + 15 + 6) 60 h5))))
set_option maxRecDepth 100000 in
set_option maxHeartbeats 4000000 in
theorem t_X10_refreshDues_8 {G : Gx} {n0 : Int} {K : Int → Hh → Prop} {a0 : Int} (h0 : 0 ≤ a0) : ∀ (n : Nat) (v1 : Int) (h : Hh), w_X10_refreshDues_8 K  a0 n v1 h → PW G M_X10_refreshDues rm_X10_refreshDues 0 0 [] n0 K 8 [(0, vr 10 a0 0), (1, vi v1)] [] [] 0 0 h := by
  intro n
  induction n with
  | zero =>
    intro v1 h hf
    rw [w_X10_refreshDues_8] at hf
    exact hf.elim
  | succ n ih =>
    intro v1 h hf
    rw [w_X10_refreshDues_8] at hf
    refine p_iload_n dX10_refreshDues_8 rfl 1 rfl ?_
    refine p_aload_n dX10_refreshDues_9 rfl 0 rfl ?_
    refine p_lay (c := 10) (tq := 6) (n := 0) dX10_refreshDues_10 12 15 tb_239 (by decide) (by decide) h0 (by decide) (by decide) (fun _ => rfl) (vr 6 (a0 + 15) 0) rfl ?_
    refine p_getN (c := 6) (vi (h (a0 + 15) 7)) dX10_refreshDues_13 7 tb_124 (by decide) (by decide) (Or.inl rfl) (nnk h0 (by decide)) rfl rfl ?_
    refine p_icmp_ge (tgt := 86) (q := v1 ≥ h (a0 + 15) 7) dX10_refreshDues_16 (by decide) Iff.rfl (fun hc => ?_) (fun hc => ?_)
    · replace hf := Eq.mp (if_pos hc) hf
      refine p_aload_n dX10_refreshDues_86 rfl 0 rfl ?_
      refine p_lay (c := 10) (tq := 6) (n := 0) dX10_refreshDues_87 12 15 tb_239 (by decide) (by decide) h0 (by decide) (by decide) (fun _ => rfl) (vr 6 (a0 + 15) 0) rfl ?_
      refine p_aload_n dX10_refreshDues_90 rfl 0 rfl ?_
      refine p_lay (c := 10) (tq := 6) (n := 0) dX10_refreshDues_91 12 15 tb_239 (by decide) (by decide) h0 (by decide) (by decide) (fun _ => rfl) (vr 6 (a0 + 15) 0) rfl ?_
      refine p_getN (c := 6) (vi (h (a0 + 15) 7)) dX10_refreshDues_94 7 tb_124 (by decide) (by decide) (Or.inl rfl) (nnk h0 (by decide)) rfl rfl ?_
      refine p_putiN (c := 6) dX10_refreshDues_97 8 tb_126 (by decide) (by decide) (Or.inl rfl) (nnk h0 (by decide)) rfl rfl (fun _ => by decide) (up h (a0 + 15) 8 (h (a0 + 15) 7)) rfl ?_
      replace hf := hb_e hf
      generalize up h (a0 + 15) 8 (h (a0 + 15) 7) = h2 at hf ⊢
      exact p_vret dX10_refreshDues_100 rfl (by decide) (by decide) (fun _ h => absurd h List.not_mem_nil) hf
    · replace hf := Eq.mp (if_neg hc) hf
      refine p_aload_n dX10_refreshDues_19 rfl 0 rfl ?_
      refine p_aload_n dX10_refreshDues_20 rfl 0 rfl ?_
      refine p_lay (c := 10) (tq := 6) (n := 0) dX10_refreshDues_21 12 15 tb_239 (by decide) (by decide) h0 (by decide) (by decide) (fun _ => rfl) (vr 6 (a0 + 15) 0) rfl ?_
      refine p_layN (c := 6) (tq := 100) (n := 60) dX10_refreshDues_24 1 2 tb_114 (by decide) (by decide) (nnk h0 (by decide)) (by decide) (by decide) (fun _ => rfl) (vr 100 (a0 + 15 + 2) 60) rfl ?_
      refine p_iload_n dX10_refreshDues_27 rfl 1 rfl ?_
      obtain ⟨c3, hf⟩ := hf
      refine p_iald dX10_refreshDues_28 (nnk (nnk h0 (by decide)) (by decide)) c3 ?_
      refine p_callVr (Cn := "ThreadCharts$Chart") dX10_refreshDues_29 M_X10_chartAt rfl [vi (h (a0 + 15 + 2) v1)] (t_X10_chartAt _ _ _ _ h0 hf) ok_X10_chartAt rfl (c := 10) (by decide) h0 rfl tb_575 ⟨tb_577, ts_29⟩ rfl (Nat.le_of_ble_eq_true rfl) ⟨rfl, rfl⟩ ⟨by decide, by decide⟩ ⟨by decide, by decide⟩ (fun r4 h5 hf => ?_)
      refine p_astore_n (ls' := [(2, vr 0 r4 0), (0, vr 10 a0 0), (1, vi v1)]) dX10_refreshDues_32 rfl (by decide) rfl ?_
      refine p_aload_n dX10_refreshDues_33 rfl 1 rfl ?_
      refine p_lay (c := 10) (tq := 6) (n := 0) dX10_refreshDues_34 12 15 tb_239 (by decide) (by decide) h0 (by decide) (by decide) (fun _ => rfl) (vr 6 (a0 + 15) 0) rfl ?_
      refine p_layN (c := 6) (tq := 100) (n := 60) dX10_refreshDues_37 5 6 tb_121 (by decide) (by decide) (nnk h0 (by decide)) (by decide) (by decide) (fun _ => rfl) (vr 100 (a0 + 15 + 6) 60) rfl ?_
      refine p_iload_n dX10_refreshDues_40 rfl 2 rfl ?_
      refine p_aload_n dX10_refreshDues_41 rfl 0 rfl ?_
      refine p_ifnonnull (tgt := 49) dX10_refreshDues_42 (by decide) (by decide) (fun hc => ?_) (fun hc => ?_)
      · replace hf := Eq.mp (if_pos hc) hf
        refine p_aload_n dX10_refreshDues_49 rfl 0 rfl ?_
        obtain ⟨c6, hf⟩ := hf
        refine p_getN (c := 0) (vr 7 (h5 r4 0) 0) dX10_refreshDues_50 0 tb_491 (by decide) (by decide) (Or.inl rfl) c6 rfl rfl ?_
        refine p_aload_n dX10_refreshDues_53 rfl 1 rfl ?_
        refine p_aload_n dX10_refreshDues_54 rfl 0 rfl ?_
        refine p_aload_n dX10_refreshDues_55 rfl 1 rfl ?_
        refine p_lay (c := 10) (tq := 6) (n := 0) dX10_refreshDues_56 12 15 tb_239 (by decide) (by decide) h0 (by decide) (by decide) (fun _ => rfl) (vr 6 (a0 + 15) 0) rfl ?_
        refine p_layN (c := 6) (tq := 100) (n := 60) dX10_refreshDues_59 2 3 tb_116 (by decide) (by decide) (nnk h0 (by decide)) (by decide) (by decide) (fun _ => rfl) (vr 100 (a0 + 15 + 3) 60) rfl ?_
        refine p_iload_n dX10_refreshDues_62 rfl 2 rfl ?_
        refine p_iald dX10_refreshDues_63 (nnk (nnk h0 (by decide)) (by decide)) c3 ?_
        refine p_aload_n dX10_refreshDues_64 rfl 1 rfl ?_
        refine p_lay (c := 10) (tq := 6) (n := 0) dX10_refreshDues_65 12 15 tb_239 (by decide) (by decide) h0 (by decide) (by decide) (fun _ => rfl) (vr 6 (a0 + 15) 0) rfl ?_
        refine p_layN (c := 6) (tq := 100) (n := 60) dX10_refreshDues_68 4 5 tb_119 (by decide) (by decide) (nnk h0 (by decide)) (by decide) (by decide) (fun _ => rfl) (vr 100 (a0 + 15 + 5) 60) rfl ?_
        refine p_iload_n dX10_refreshDues_71 rfl 2 rfl ?_
        refine p_iald dX10_refreshDues_72 (nnk (nnk h0 (by decide)) (by decide)) c3 ?_
        refine p_callVl dX10_refreshDues_73 M_X10_readAsKnown rfl [vr 0 r4 0, vi (h5 (a0 + 15 + 3) v1), vi (h5 (a0 + 15 + 5) v1)] (t_X10_readAsKnown _ _ _ _ _ _ h0 hf) ok_X10_readAsKnown rfl (c := 10) (by decide) h0 rfl tb_588 ⟨tb_590, ts_31⟩ rfl (Nat.le_of_ble_eq_true rfl) ⟨rfl, rfl⟩ ⟨by decide, by decide⟩ ⟨by decide, by decide⟩ (fun r7 h8 hf => ?_)
        obtain ⟨c9, hf⟩ := hf
        refine p_callVNi dX10_refreshDues_76 M_X7_tenthsOf (Or.inl rfl) [vl r7] (t_X7_tenthsOf _ _ _ _ c9 hf) ok_X7_tenthsOf rfl (c := 7) (by decide) c9 rfl tb_639 ⟨tb_641, ts_41⟩ rfl (Nat.le_of_ble_eq_true rfl) ⟨rfl, rfl⟩ ⟨by decide, by decide⟩ ⟨by decide, by decide⟩ (fun r10 h11 hf => ?_)
        refine p_sub (ls' := [(0, vr 10 a0 0), (1, vi v1)]) [1, 2] rfl ?_
        exact t_X10_refreshDues_79 h0 ih _ _ _ _ _ _ hf
      · replace hf := Eq.mp (if_neg hc) hf
        refine p_iconst dX10_refreshDues_45 (by decide) ?_
        refine p_goto (tgt := 79) dX10_refreshDues_46 (by decide) ?_
        refine p_sub (ls' := [(0, vr 10 a0 0), (1, vi v1)]) [1, 2] rfl ?_
        exact t_X10_refreshDues_79 h0 ih _ _ _ _ _ _ hf
def w_X10_refreshDues (a0 : Int) (h : Hh) (K : Int → Hh → Prop) : Prop := vb (h (a0 + 15) 8) fun z1 => w_X10_refreshDues_8 K  a0 NF z1 h
set_option maxRecDepth 100000 in
set_option maxHeartbeats 4000000 in
theorem t_X10_refreshDues {G : Gx} (a0 : Int) (h : Hh) (K : Int → Hh → Prop) (h0 : 0 ≤ a0) (hf : w_X10_refreshDues a0 h K) : CT G M_X10_refreshDues rm_X10_refreshDues 0 0 [] [vr 10 a0 0] h K := by
  unfold w_X10_refreshDues at hf
  refine CT.of (ls0 := [(0, vr 10 a0 0)]) (plainFor_of_name (by decide +kernel)) (by decide +kernel) (Nat.le_of_ble_eq_true rfl) rfl rfl ?_
  refine p_aload_n dX10_refreshDues_0 rfl 0 rfl ?_
  refine p_lay (c := 10) (tq := 6) (n := 0) dX10_refreshDues_1 12 15 tb_239 (by decide) (by decide) h0 (by decide) (by decide) (fun _ => rfl) (vr 6 (a0 + 15) 0) rfl ?_
  refine p_getN (c := 6) (vi (h (a0 + 15) 8)) dX10_refreshDues_4 8 tb_126 (by decide) (by decide) (Or.inl rfl) (nnk h0 (by decide)) rfl rfl ?_
  refine p_istore_n (ls' := [(1, vi (h (a0 + 15) 8)), (0, vr 10 a0 0)]) dX10_refreshDues_7 rfl (by decide) rfl ?_
  replace hf := vb_e hf
  generalize (h (a0 + 15) 8) = z1 at hf ⊢
  refine p_sub (ls' := [(0, vr 10 a0 0), (1, vi z1)]) [1, 0] rfl ?_
  refine t_X10_refreshDues_8 h0  NF _ _ hf
theorem ok_X10_refreshDues : mOK M_X10_refreshDues 0 := ⟨tb_813, tb_1, by decide +kernel⟩
abbrev M_X10_due : MD := (yX10_due, cX10_due, 4, some .int)
abbrev rm_X10_due : Room := { frames := 6, cells := 0, slots := 0, locals := 144 }
def w_X10_due_18 (K : Int → Hh → Prop) (a0 : Int) (h : Hh) : Prop := K (-2147483648) h
set_option maxRecDepth 100000 in
set_option maxHeartbeats 4000000 in
theorem t_X10_due_18 {G : Gx} {n0 : Int} {K : Int → Hh → Prop} {a0 : Int} (h0 : 0 ≤ a0)  (h : Hh) (hf : w_X10_due_18 K  a0  h) : PW G M_X10_due rm_X10_due 0 0 [] n0 K 18 [] [] [] 0 0 h := by
  unfold w_X10_due_18 at hf
  refine p_ldc (z := (-2147483648)) dX10_due_18 tb_389 (by decide) ?_
  exact p_iret dX10_due_20 rfl (by decide) (by decide) (fun _ h => absurd h List.not_mem_nil) hf
def w_X10_due_61 (K : Int → Hh → Prop) (a0 : Int) (s0 : Int) (h : Hh) : Prop := K s0 h
set_option maxRecDepth 100000 in
set_option maxHeartbeats 4000000 in
theorem t_X10_due_61 {G : Gx} {n0 : Int} {K : Int → Hh → Prop} {a0 : Int} (h0 : 0 ≤ a0)  (s0 : Int) (h : Hh) (hf : w_X10_due_61 K  a0 s0 h) : PW G M_X10_due rm_X10_due 0 0 [] n0 K 61 [] [vi s0] [] 0 0 h := by
  unfold w_X10_due_61 at hf
  exact p_iret dX10_due_61 rfl (by decide) (by decide) (fun _ h => absurd h List.not_mem_nil) hf
def w_X10_due (a0 x1 x2 x3 : Int) (h : Hh) (K : Int → Hh → Prop) : Prop := w_X6_has (a0 + 15) x1 h (fun r1 h2 => if r1 = 0 then (w_X10_due_18 K  a0  h2) else (w_X10_isBound x2 h2 (fun r3 h4 => if r3 ≠ 0 then (w_X10_refreshDues a0 h4 (fun _ h5 => if x3 ≠ 0 then (if x3 ≠ 1 then (K (-2147483648) h5) else (w_X6_isBad (a0 + 15) x1 x2 h5 (fun r6 h7 => if r6 = 0 then (w_X10_due_61 K  a0 0 h7) else (w_X10_due_61 K  a0 1 h7)))) else (((0 : Int) ≤ x1 ∧ (x1 : Int) < 60) ∧ (K (h5 (a0 + 15 + 6) x1) h5)))) else (w_X10_due_18 K  a0  h4))))
set_option maxRecDepth 100000 in
set_option maxHeartbeats 4000000 in
theorem t_X10_due {G : Gx} (a0 x1 x2 x3 : Int) (h : Hh) (K : Int → Hh → Prop) (h0 : 0 ≤ a0) (hf : w_X10_due a0 x1 x2 x3 h K) : CT G M_X10_due rm_X10_due 0 0 [] [vr 10 a0 0, vi x1, vi x2, vi x3] h K := by
  unfold w_X10_due at hf
  refine CT.of (ls0 := [(0, vr 10 a0 0), (1, vi x1), (2, vi x2), (3, vi x3)]) (plainFor_of_name (by decide +kernel)) (by decide +kernel) (Nat.le_of_ble_eq_true rfl) rfl rfl ?_
  refine p_aload_n dX10_due_0 rfl 0 rfl ?_
  refine p_lay (c := 10) (tq := 6) (n := 0) dX10_due_1 12 15 tb_239 (by decide) (by decide) h0 (by decide) (by decide) (fun _ => rfl) (vr 6 (a0 + 15) 0) rfl ?_
  refine p_iload_n dX10_due_4 rfl 1 rfl ?_
  refine p_callVNi dX10_due_5 M_X6_has (Or.inr rfl) [vi x1] (t_X6_has _ _ _ _ (nnk h0 (by decide)) hf) ok_X6_has rfl (c := 6) (by decide) (nnk h0 (by decide)) rfl tb_803 ⟨tb_805, ts_59⟩ rfl (Nat.le_of_ble_eq_true rfl) ⟨rfl, rfl⟩ ⟨by decide, by decide⟩ ⟨by decide, by decide⟩ (fun r1 h2 hf => ?_)
  refine p_if_eq (tgt := 18) (q := r1 = 0) dX10_due_8 (by decide) Iff.rfl (fun hc => ?_) (fun hc => ?_)
  · replace hf := Eq.mp (if_pos hc) hf
    refine p_sub (ls' := []) [] rfl ?_
    exact t_X10_due_18 h0   _ hf
  · replace hf := Eq.mp (if_neg hc) hf
    refine p_iload_n dX10_due_11 rfl 2 rfl ?_
    refine p_callSi dX10_due_12 M_X10_isBound (Or.inr rfl) [vi x2] (t_X10_isBound _ _ _ hf) ok_X10_isBound rfl tb_807 tb_808 rfl (Nat.le_of_ble_eq_true rfl) ⟨rfl, rfl⟩ ⟨by decide, by decide⟩ ⟨by decide, by decide⟩ (fun r3 h4 hf => ?_)
    refine p_if_ne (tgt := 21) (q := r3 ≠ 0) dX10_due_15 (by decide) Iff.rfl (fun hc => ?_) (fun hc => ?_)
    · replace hf := Eq.mp (if_pos hc) hf
      refine p_aload_n dX10_due_21 rfl 0 rfl ?_
      refine p_callVv dX10_due_22 M_X10_refreshDues rfl [] (t_X10_refreshDues _ _ _ h0 hf) ok_X10_refreshDues rfl (c := 10) (by decide) h0 rfl tb_810 ⟨tb_812, ts_60⟩ rfl (Nat.le_of_ble_eq_true rfl) ⟨rfl, rfl⟩ ⟨by decide, by decide⟩ ⟨by decide, by decide⟩ (fun _ h5 hf => ?_)
      refine p_iload_n dX10_due_25 rfl 3 rfl ?_
      refine p_if_ne (tgt := 39) (q := x3 ≠ 0) dX10_due_26 (by decide) Iff.rfl (fun hc => ?_) (fun hc => ?_)
      · replace hf := Eq.mp (if_pos hc) hf
        refine p_iload_n dX10_due_39 rfl 3 rfl ?_
        refine p_iconst dX10_due_40 (by decide) ?_
        refine p_icmp_ne (tgt := 62) (q := x3 ≠ 1) dX10_due_41 (by decide) Iff.rfl (fun hc => ?_) (fun hc => ?_)
        · replace hf := Eq.mp (if_pos hc) hf
          refine p_ldc (z := (-2147483648)) dX10_due_62 tb_389 (by decide) ?_
          exact p_iret dX10_due_64 rfl (by decide) (by decide) (fun _ h => absurd h List.not_mem_nil) hf
        · replace hf := Eq.mp (if_neg hc) hf
          refine p_aload_n dX10_due_44 rfl 0 rfl ?_
          refine p_lay (c := 10) (tq := 6) (n := 0) dX10_due_45 12 15 tb_239 (by decide) (by decide) h0 (by decide) (by decide) (fun _ => rfl) (vr 6 (a0 + 15) 0) rfl ?_
          refine p_iload_n dX10_due_48 rfl 1 rfl ?_
          refine p_iload_n dX10_due_49 rfl 2 rfl ?_
          refine p_callVNi dX10_due_50 M_X6_isBad (Or.inr rfl) [vi x1, vi x2] (t_X6_isBad _ _ _ _ _ (nnk h0 (by decide)) hf) ok_X6_isBad rfl (c := 6) (by decide) (nnk h0 (by decide)) rfl tb_814 ⟨tb_816, ts_61⟩ rfl (Nat.le_of_ble_eq_true rfl) ⟨rfl, rfl⟩ ⟨by decide, by decide⟩ ⟨by decide, by decide⟩ (fun r6 h7 hf => ?_)
          refine p_if_eq (tgt := 60) (q := r6 = 0) dX10_due_53 (by decide) Iff.rfl (fun hc => ?_) (fun hc => ?_)
          · replace hf := Eq.mp (if_pos hc) hf
            refine p_iconst dX10_due_60 (by decide) ?_
            refine p_sub (ls' := []) [] rfl ?_
            exact t_X10_due_61 h0  _ _ hf
          · replace hf := Eq.mp (if_neg hc) hf
            refine p_iconst dX10_due_56 (by decide) ?_
            refine p_goto (tgt := 61) dX10_due_57 (by decide) ?_
            refine p_sub (ls' := []) [] rfl ?_
            exact t_X10_due_61 h0  _ _ hf
      · replace hf := Eq.mp (if_neg hc) hf
        refine p_aload_n dX10_due_29 rfl 0 rfl ?_
        refine p_lay (c := 10) (tq := 6) (n := 0) dX10_due_30 12 15 tb_239 (by decide) (by decide) h0 (by decide) (by decide) (fun _ => rfl) (vr 6 (a0 + 15) 0) rfl ?_
        refine p_layN (c := 6) (tq := 100) (n := 60) dX10_due_33 5 6 tb_121 (by decide) (by decide) (nnk h0 (by decide)) (by decide) (by decide) (fun _ => rfl) (vr 100 (a0 + 15 + 6) 60) rfl ?_
        refine p_iload_n dX10_due_36 rfl 1 rfl ?_
        obtain ⟨c8, hf⟩ := hf
        refine p_iald dX10_due_37 (nnk (nnk h0 (by decide)) (by decide)) c8 ?_
        exact p_iret dX10_due_38 rfl (by decide) (by decide) (fun _ h => absurd h List.not_mem_nil) hf
    · replace hf := Eq.mp (if_neg hc) hf
      refine p_sub (ls' := []) [] rfl ?_
      exact t_X10_due_18 h0   _ hf
theorem ok_X10_due : mOK M_X10_due 3 := ⟨tb_802, tb_1, by decide +kernel⟩
