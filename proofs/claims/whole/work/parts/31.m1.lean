abbrev M_X0_middleOf : MD := (yX0_middleOf, cX0_middleOf, 6, some .long)
abbrev rm_X0_middleOf : Room := { frames := 2, cells := 0, slots := 0, locals := 48 }
def w_X0_middleOf (x0 x2 x4 : Int) (h : Hh) (K : Int → Hh → Prop) : Prop := w_X10_nearest (w64 ((w64 (x0 * x2)) * x4)) (w64 (x2 + x4)) h (fun r1 h2 => K r1 h2)
set_option maxRecDepth 100000 in
set_option maxHeartbeats 4000000 in
theorem t_X0_middleOf {G : Gx} (x0 x2 x4 : Int) (h : Hh) (K : Int → Hh → Prop) (hf : w_X0_middleOf x0 x2 x4 h K) : CT G M_X0_middleOf rm_X0_middleOf 0 0 [] [vl x0, vl x2, vl x4] h K := by
  unfold w_X0_middleOf at hf
  refine CT.of (ls0 := [(0, vl x0), (2, vl x2), (4, vl x4)]) (plainFor_of_name (by decide +kernel)) (by decide +kernel) (Nat.le_of_ble_eq_true rfl) rfl rfl ?_
  refine p_lload_n dX0_middleOf_0 rfl 0 rfl ?_
  refine p_lload_n dX0_middleOf_1 rfl 1 rfl ?_
  refine p_lmul dX0_middleOf_2 ?_
  refine p_lload dX0_middleOf_3 2 rfl ?_
  refine p_lmul dX0_middleOf_5 ?_
  refine p_lload_n dX0_middleOf_6 rfl 1 rfl ?_
  refine p_lload dX0_middleOf_7 2 rfl ?_
  refine p_ladd dX0_middleOf_9 ?_
  refine p_callSNl dX0_middleOf_10 M_X10_nearest rfl [vl (w64 ((w64 (x0 * x2)) * x4)), vl (w64 (x2 + x4))] (t_X10_nearest _ _ _ _ hf) ok_X10_nearest rfl tb_623 tb_427 rfl (Nat.le_of_ble_eq_true rfl) ⟨rfl, rfl⟩ ⟨by decide, by decide⟩ ⟨by decide, by decide⟩ (fun r1 h2 hf => ?_)
  exact p_lret dX0_middleOf_13 rfl (by decide) (by decide) (fun _ h => absurd h List.not_mem_nil) hf
theorem ok_X0_middleOf : mOK M_X0_middleOf 3 := ⟨tb_684, tb_12, by decide +kernel⟩
abbrev M_J9_max_f86c9 : MD := (yJ9_max_f86c9, cJ9_max_f86c9, 4, some .long)
abbrev rm_J9_max_f86c9 : Room := { frames := 0, cells := 0, slots := 0, locals := 0 }
def w_J9_max_f86c9_11 (K : Int → Hh → Prop) (s0 : Int) (h : Hh) : Prop := K s0 h
set_option maxRecDepth 100000 in
set_option maxHeartbeats 4000000 in
theorem t_J9_max_f86c9_11 {G : Gx} {n0 : Int} {K : Int → Hh → Prop}  (s0 : Int) (h : Hh) (hf : w_J9_max_f86c9_11 K   s0 h) : PW G M_J9_max_f86c9 rm_J9_max_f86c9 0 0 [] n0 K 11 [] [vl s0] [] 0 0 h := by
  unfold w_J9_max_f86c9_11 at hf
  exact p_lret dJ9_max_f86c9_11 rfl (by decide) (by decide) (fun _ h => absurd h List.not_mem_nil) hf
def w_J9_max_f86c9 (x0 x2 : Int) (h : Hh) (K : Int → Hh → Prop) : Prop := if x0 < x2 then (w_J9_max_f86c9_11 K   x2 h) else (w_J9_max_f86c9_11 K   x0 h)
set_option maxRecDepth 100000 in
set_option maxHeartbeats 4000000 in
theorem t_J9_max_f86c9 {G : Gx} (x0 x2 : Int) (h : Hh) (K : Int → Hh → Prop) (hf : w_J9_max_f86c9 x0 x2 h K) : CT G M_J9_max_f86c9 rm_J9_max_f86c9 0 0 [] [vl x0, vl x2] h K := by
  unfold w_J9_max_f86c9 at hf
  refine CT.of (ls0 := [(0, vl x0), (2, vl x2)]) (by decide +kernel) (by decide +kernel) (Nat.le_of_ble_eq_true rfl) rfl rfl ?_
  refine p_lload_n dJ9_max_f86c9_0 rfl 0 rfl ?_
  refine p_lload_n dJ9_max_f86c9_1 rfl 1 rfl ?_
  refine p_lcmp (z := (if x0 < x2 then (-1) else if x0 = x2 then 0 else 1)) dJ9_max_f86c9_2 rfl ?_
  refine p_if_lt (tgt := 10) (q := x0 < x2) dJ9_max_f86c9_3 (by decide) (lc_lt x0 x2) (fun hc => ?_) (fun hc => ?_)
  · replace hf := Eq.mp (if_pos hc) hf
    refine p_lload_n dJ9_max_f86c9_10 rfl 1 rfl ?_
    refine p_sub (ls' := []) [] rfl ?_
    exact t_J9_max_f86c9_11  _ _ hf
  · replace hf := Eq.mp (if_neg hc) hf
    refine p_lload_n dJ9_max_f86c9_6 rfl 0 rfl ?_
    refine p_goto (tgt := 11) dJ9_max_f86c9_7 (by decide) ?_
    refine p_sub (ls' := []) [] rfl ?_
    exact t_J9_max_f86c9_11  _ _ hf
theorem ok_J9_max_f86c9 : mOK M_J9_max_f86c9 2 := ⟨tb_687, tb_11, by decide +kernel⟩
abbrev M_X0_tallWith : MD := (yX0_tallWith, cX0_tallWith, 12, some .long)
abbrev rm_X0_tallWith : Room := { frames := 4, cells := 0, slots := 0, locals := 88 }
def w_X0_tallWith (a0 x1 x2 x3 : Int) (h : Hh) (K : Int → Hh → Prop) : Prop := w_X0_hasPage a0 x1 h (fun r1 h2 => if r1 ≠ 0 then (((0 : Int) ≤ w32 (x1 + 1) ∧ (w32 (x1 + 1) : Int) < 4) ∧ (0 ≤ h2 a0 0 ∧ (w_X7_leastOf (h2 a0 0) (h2 (a0 + 1) (w32 (x1 + 1))) h2 (fun r5 h6 => 0 ≤ h6 a0 0 ∧ (w_X7_greatestOf (h6 a0 0) (h6 (a0 + 1) (w32 (x1 + 1))) h6 (fun r8 h9 => ((0 : Int) ≤ x1 ∧ (x1 : Int) < 4) ∧ (w_J9_min_f86c9 (w64 (x2 * (h9 (a0 + 4) x1))) (w64 (x3 * r5)) h9 (fun r11 h12 => w_X0_middleOf (h12 (a0 + 4) (w32 (x1 + 1))) x2 x3 h12 (fun r13 h14 => w_J9_min_f86c9 r11 r13 h14 (fun r15 h16 => w_J9_max_f86c9 (w64 (x2 * (h16 (a0 + 5) x1))) (w64 (x3 * r8)) h16 (fun r17 h18 => w_X0_middleOf (h18 (a0 + 5) (w32 (x1 + 1))) x2 x3 h18 (fun r19 h20 => w_J9_max_f86c9 r17 r19 h20 (fun r21 h22 => K (w64 (r21 - r15)) h22))))))))))))) else (K 0 h2))
set_option maxRecDepth 100000 in
set_option maxHeartbeats 4000000 in
theorem t_X0_tallWith {G : Gx} (a0 x1 x2 x3 : Int) (h : Hh) (K : Int → Hh → Prop) (h0 : 0 ≤ a0) (hf : w_X0_tallWith a0 x1 x2 x3 h K) : CT G M_X0_tallWith rm_X0_tallWith 0 0 [] [vr 0 a0 0, vi x1, vi x2, vi x3] h K := by
  unfold w_X0_tallWith at hf
  refine CT.of (ls0 := [(0, vr 0 a0 0), (1, vi x1), (2, vi x2), (3, vi x3)]) (plainFor_of_name (by decide +kernel)) (by decide +kernel) (Nat.le_of_ble_eq_true rfl) rfl rfl ?_
  refine p_aload_n dX0_tallWith_0 rfl 0 rfl ?_
  refine p_iload_n dX0_tallWith_1 rfl 1 rfl ?_
  refine p_callVi dX0_tallWith_2 M_X0_hasPage (Or.inr rfl) [vi x1] (t_X0_hasPage _ _ _ _ h0 hf) ok_X0_hasPage rfl (c := 0) (by decide) h0 rfl tb_567 ⟨tb_569, ts_28⟩ rfl (Nat.le_of_ble_eq_true rfl) ⟨rfl, rfl⟩ ⟨by decide, by decide⟩ ⟨by decide, by decide⟩ (fun r1 h2 hf => ?_)
  refine p_if_ne (tgt := 10) (q := r1 ≠ 0) dX0_tallWith_5 (by decide) Iff.rfl (fun hc => ?_) (fun hc => ?_)
  · replace hf := Eq.mp (if_pos hc) hf
    refine p_aload_n dX0_tallWith_10 rfl 0 rfl ?_
    refine p_get (c := 0) (vr 7 (h2 a0 0) 0) dX0_tallWith_11 0 tb_489 (by decide) (by decide) (Or.inl rfl) h0 rfl rfl ?_
    refine p_aload_n dX0_tallWith_14 rfl 0 rfl ?_
    refine p_lay (c := 0) (tq := 100) (n := 4) dX0_tallWith_15 5 1 tb_502 (by decide) (by decide) h0 (by decide) (by decide) (fun _ => rfl) (vr 100 (a0 + 1) 4) rfl ?_
    refine p_iload_n dX0_tallWith_18 rfl 1 rfl ?_
    refine p_iconst dX0_tallWith_19 (by decide) ?_
    refine p_iadd dX0_tallWith_20 ?_
    obtain ⟨c3, hf⟩ := hf
    refine p_iald dX0_tallWith_21 (nnk h0 (by decide)) c3 ?_
    obtain ⟨c4, hf⟩ := hf
    refine p_callVNi dX0_tallWith_22 M_X7_leastOf (Or.inl rfl) [vi (h2 (a0 + 1) (w32 (x1 + 1)))] (t_X7_leastOf _ _ _ _ c4 hf) ok_X7_leastOf rfl (c := 7) (by decide) c4 rfl tb_543 ⟨tb_545, ts_23⟩ rfl (Nat.le_of_ble_eq_true rfl) ⟨rfl, rfl⟩ ⟨by decide, by decide⟩ ⟨by decide, by decide⟩ (fun r5 h6 hf => ?_)
    refine p_i2l dX0_tallWith_25 ?_
    refine p_lstore (ls' := [(4, vl r5), (0, vr 0 a0 0), (1, vi x1), (2, vi x2), (3, vi x3)]) dX0_tallWith_26 (by decide) rfl ?_
    refine p_aload_n dX0_tallWith_28 rfl 1 rfl ?_
    refine p_get (c := 0) (vr 7 (h6 a0 0) 0) dX0_tallWith_29 0 tb_489 (by decide) (by decide) (Or.inl rfl) h0 rfl rfl ?_
    refine p_aload_n dX0_tallWith_32 rfl 1 rfl ?_
    refine p_lay (c := 0) (tq := 100) (n := 4) dX0_tallWith_33 5 1 tb_502 (by decide) (by decide) h0 (by decide) (by decide) (fun _ => rfl) (vr 100 (a0 + 1) 4) rfl ?_
    refine p_iload_n dX0_tallWith_36 rfl 2 rfl ?_
    refine p_iconst dX0_tallWith_37 (by decide) ?_
    refine p_iadd dX0_tallWith_38 ?_
    refine p_iald dX0_tallWith_39 (nnk h0 (by decide)) c3 ?_
    obtain ⟨c7, hf⟩ := hf
    refine p_callVNi dX0_tallWith_40 M_X7_greatestOf (Or.inl rfl) [vi (h6 (a0 + 1) (w32 (x1 + 1)))] (t_X7_greatestOf _ _ _ _ c7 hf) ok_X7_greatestOf rfl (c := 7) (by decide) c7 rfl tb_556 ⟨tb_558, ts_26⟩ rfl (Nat.le_of_ble_eq_true rfl) ⟨rfl, rfl⟩ ⟨by decide, by decide⟩ ⟨by decide, by decide⟩ (fun r8 h9 hf => ?_)
    refine p_i2l dX0_tallWith_43 ?_
    refine p_lstore (ls' := [(6, vl r8), (4, vl r5), (0, vr 0 a0 0), (1, vi x1), (2, vi x2), (3, vi x3)]) dX0_tallWith_44 (by decide) rfl ?_
    refine p_iload_n dX0_tallWith_46 rfl 4 rfl ?_
    refine p_i2l dX0_tallWith_47 ?_
    refine p_aload_n dX0_tallWith_48 rfl 2 rfl ?_
    refine p_lay (c := 0) (tq := 101) (n := 4) dX0_tallWith_49 8 4 tb_511 (by decide) (by decide) h0 (by decide) (by decide) (fun _ => rfl) (vr 101 (a0 + 4) 4) rfl ?_
    refine p_iload_n dX0_tallWith_52 rfl 3 rfl ?_
    obtain ⟨c10, hf⟩ := hf
    refine p_lald dX0_tallWith_53 (nnk h0 (by decide)) c10 ?_
    refine p_lmul dX0_tallWith_54 ?_
    refine p_iload_n dX0_tallWith_55 rfl 5 rfl ?_
    refine p_i2l dX0_tallWith_56 ?_
    refine p_lload dX0_tallWith_57 1 rfl ?_
    refine p_lmul dX0_tallWith_59 ?_
    refine p_callSl dX0_tallWith_60 M_J9_min_f86c9 rfl [vl (w64 (x2 * (h9 (a0 + 4) x1))), vl (w64 (x3 * r5))] (t_J9_min_f86c9 _ _ _ _ hf) ok_J9_min_f86c9 rfl tb_679 tb_680 rfl (Nat.le_of_ble_eq_true rfl) ⟨rfl, rfl⟩ ⟨by decide, by decide⟩ ⟨by decide, by decide⟩ (fun r11 h12 hf => ?_)
    refine p_lstore (ls' := [(8, vl r11), (6, vl r8), (4, vl r5), (0, vr 0 a0 0), (1, vi x1), (2, vi x2), (3, vi x3)]) dX0_tallWith_63 (by decide) rfl ?_
    refine p_lload dX0_tallWith_65 0 rfl ?_
    refine p_aload_n dX0_tallWith_67 rfl 3 rfl ?_
    refine p_lay (c := 0) (tq := 101) (n := 4) dX0_tallWith_68 8 4 tb_511 (by decide) (by decide) h0 (by decide) (by decide) (fun _ => rfl) (vr 101 (a0 + 4) 4) rfl ?_
    refine p_iload_n dX0_tallWith_71 rfl 4 rfl ?_
    refine p_iconst dX0_tallWith_72 (by decide) ?_
    refine p_iadd dX0_tallWith_73 ?_
    refine p_lald dX0_tallWith_74 (nnk h0 (by decide)) c3 ?_
    refine p_iload_n dX0_tallWith_75 rfl 5 rfl ?_
    refine p_i2l dX0_tallWith_76 ?_
    refine p_iload_n dX0_tallWith_77 rfl 6 rfl ?_
    refine p_i2l dX0_tallWith_78 ?_
    refine p_callSl dX0_tallWith_79 M_X0_middleOf rfl [vl (h12 (a0 + 4) (w32 (x1 + 1))), vl x2, vl x3] (t_X0_middleOf _ _ _ _ _ hf) ok_X0_middleOf rfl tb_682 tb_683 rfl (Nat.le_of_ble_eq_true rfl) ⟨rfl, rfl⟩ ⟨by decide, by decide⟩ ⟨by decide, by decide⟩ (fun r13 h14 hf => ?_)
    refine p_callSl dX0_tallWith_82 M_J9_min_f86c9 rfl [vl r11, vl r13] (t_J9_min_f86c9 _ _ _ _ hf) ok_J9_min_f86c9 rfl tb_679 tb_680 rfl (Nat.le_of_ble_eq_true rfl) ⟨rfl, rfl⟩ ⟨by decide, by decide⟩ ⟨by decide, by decide⟩ (fun r15 h16 hf => ?_)
    refine p_lstore (ls' := [(8, vl r15), (6, vl r8), (4, vl r5), (0, vr 0 a0 0), (1, vi x1), (2, vi x2), (3, vi x3)]) dX0_tallWith_85 (by decide) rfl ?_
    refine p_iload_n dX0_tallWith_87 rfl 5 rfl ?_
    refine p_i2l dX0_tallWith_88 ?_
    refine p_aload_n dX0_tallWith_89 rfl 3 rfl ?_
    refine p_lay (c := 0) (tq := 101) (n := 4) dX0_tallWith_90 9 5 tb_512 (by decide) (by decide) h0 (by decide) (by decide) (fun _ => rfl) (vr 101 (a0 + 5) 4) rfl ?_
    refine p_iload_n dX0_tallWith_93 rfl 4 rfl ?_
    refine p_lald dX0_tallWith_94 (nnk h0 (by decide)) c10 ?_
    refine p_lmul dX0_tallWith_95 ?_
    refine p_iload_n dX0_tallWith_96 rfl 6 rfl ?_
    refine p_i2l dX0_tallWith_97 ?_
    refine p_lload dX0_tallWith_98 1 rfl ?_
    refine p_lmul dX0_tallWith_100 ?_
    refine p_callSl dX0_tallWith_101 M_J9_max_f86c9 rfl [vl (w64 (x2 * (h16 (a0 + 5) x1))), vl (w64 (x3 * r8))] (t_J9_max_f86c9 _ _ _ _ hf) ok_J9_max_f86c9 rfl tb_685 tb_686 rfl (Nat.le_of_ble_eq_true rfl) ⟨rfl, rfl⟩ ⟨by decide, by decide⟩ ⟨by decide, by decide⟩ (fun r17 h18 hf => ?_)
    refine p_lstore (ls' := [(10, vl r17), (8, vl r15), (6, vl r8), (4, vl r5), (0, vr 0 a0 0), (1, vi x1), (2, vi x2), (3, vi x3)]) dX0_tallWith_104 (by decide) rfl ?_
    refine p_lload dX0_tallWith_106 0 rfl ?_
    refine p_aload_n dX0_tallWith_108 rfl 4 rfl ?_
    refine p_lay (c := 0) (tq := 101) (n := 4) dX0_tallWith_109 9 5 tb_512 (by decide) (by decide) h0 (by decide) (by decide) (fun _ => rfl) (vr 101 (a0 + 5) 4) rfl ?_
    refine p_iload_n dX0_tallWith_112 rfl 5 rfl ?_
    refine p_iconst dX0_tallWith_113 (by decide) ?_
    refine p_iadd dX0_tallWith_114 ?_
    refine p_lald dX0_tallWith_115 (nnk h0 (by decide)) c3 ?_
    refine p_iload_n dX0_tallWith_116 rfl 6 rfl ?_
    refine p_i2l dX0_tallWith_117 ?_
    refine p_iload_n dX0_tallWith_118 rfl 7 rfl ?_
    refine p_i2l dX0_tallWith_119 ?_
    refine p_callSl dX0_tallWith_120 M_X0_middleOf rfl [vl (h18 (a0 + 5) (w32 (x1 + 1))), vl x2, vl x3] (t_X0_middleOf _ _ _ _ _ hf) ok_X0_middleOf rfl tb_682 tb_683 rfl (Nat.le_of_ble_eq_true rfl) ⟨rfl, rfl⟩ ⟨by decide, by decide⟩ ⟨by decide, by decide⟩ (fun r19 h20 hf => ?_)
    refine p_callSl dX0_tallWith_123 M_J9_max_f86c9 rfl [vl r17, vl r19] (t_J9_max_f86c9 _ _ _ _ hf) ok_J9_max_f86c9 rfl tb_685 tb_686 rfl (Nat.le_of_ble_eq_true rfl) ⟨rfl, rfl⟩ ⟨by decide, by decide⟩ ⟨by decide, by decide⟩ (fun r21 h22 hf => ?_)
    refine p_lstore (ls' := [(10, vl r21), (8, vl r15), (6, vl r8), (4, vl r5), (0, vr 0 a0 0), (1, vi x1), (2, vi x2), (3, vi x3)]) dX0_tallWith_126 (by decide) rfl ?_
    refine p_lload dX0_tallWith_128 0 rfl ?_
    refine p_lload dX0_tallWith_130 1 rfl ?_
    refine p_lsub dX0_tallWith_132 ?_
    exact p_lret dX0_tallWith_133 rfl (by decide) (by decide) (fun _ h => absurd h List.not_mem_nil) hf
  · replace hf := Eq.mp (if_neg hc) hf
    refine p_lconst (z := 0) dX0_tallWith_8 rfl ?_
    exact p_lret dX0_tallWith_9 rfl (by decide) (by decide) (fun _ h => absurd h List.not_mem_nil) hf
theorem ok_X0_tallWith : mOK M_X0_tallWith 3 := ⟨tb_678, tb_12, by decide +kernel⟩
abbrev M_X0_isFiner : MD := (yX0_isFiner, cX0_isFiner, 4, some .boolean)
abbrev rm_X0_isFiner : Room := { frames := 0, cells := 0, slots := 0, locals := 0 }
def w_X0_isFiner_22 (K : Int → Hh → Prop) (s0 : Int) (h : Hh) : Prop := (s0 = 0 ∨ s0 = 1) ∧ (K s0 h)
set_option maxRecDepth 100000 in
set_option maxHeartbeats 4000000 in
theorem t_X0_isFiner_22 {G : Gx} {n0 : Int} {K : Int → Hh → Prop}  (s0 : Int) (h : Hh) (hf : w_X0_isFiner_22 K   s0 h) : PW G M_X0_isFiner rm_X0_isFiner 0 0 [] n0 K 22 [] [vi s0] [] 0 0 h := by
  unfold w_X0_isFiner_22 at hf
  obtain ⟨c1, hf⟩ := hf
  exact p_zret dX0_isFiner_22 rfl (by decide) (by decide) (fun _ h => absurd h List.not_mem_nil) c1 hf
def w_X0_isFiner (x0 x1 x2 x3 : Int) (h : Hh) (K : Int → Hh → Prop) : Prop := if w32 ((w32 (x0 * x1)) * (w32 (x2 + x3))) ≤ w32 ((w32 (x2 * x3)) * (w32 (x0 + x1))) then (w_X0_isFiner_22 K   0 h) else (w_X0_isFiner_22 K   1 h)
set_option maxRecDepth 100000 in
set_option maxHeartbeats 4000000 in
theorem t_X0_isFiner {G : Gx} (x0 x1 x2 x3 : Int) (h : Hh) (K : Int → Hh → Prop) (hf : w_X0_isFiner x0 x1 x2 x3 h K) : CT G M_X0_isFiner rm_X0_isFiner 0 0 [] [vi x0, vi x1, vi x2, vi x3] h K := by
  unfold w_X0_isFiner at hf
  refine CT.of (ls0 := [(0, vi x0), (1, vi x1), (2, vi x2), (3, vi x3)]) (plainFor_of_name (by decide +kernel)) (by decide +kernel) (Nat.le_of_ble_eq_true rfl) rfl rfl ?_
  refine p_iload_n dX0_isFiner_0 rfl 0 rfl ?_
  refine p_iload_n dX0_isFiner_1 rfl 1 rfl ?_
  refine p_imul dX0_isFiner_2 ?_
  refine p_iload_n dX0_isFiner_3 rfl 2 rfl ?_
  refine p_iload_n dX0_isFiner_4 rfl 3 rfl ?_
  refine p_iadd dX0_isFiner_5 ?_
  refine p_imul dX0_isFiner_6 ?_
  refine p_iload_n dX0_isFiner_7 rfl 2 rfl ?_
  refine p_iload_n dX0_isFiner_8 rfl 3 rfl ?_
  refine p_imul dX0_isFiner_9 ?_
  refine p_iload_n dX0_isFiner_10 rfl 0 rfl ?_
  refine p_iload_n dX0_isFiner_11 rfl 1 rfl ?_
  refine p_iadd dX0_isFiner_12 ?_
  refine p_imul dX0_isFiner_13 ?_
  refine p_icmp_le (tgt := 21) (q := w32 ((w32 (x0 * x1)) * (w32 (x2 + x3))) ≤ w32 ((w32 (x2 * x3)) * (w32 (x0 + x1)))) dX0_isFiner_14 (by decide) Iff.rfl (fun hc => ?_) (fun hc => ?_)
  · replace hf := Eq.mp (if_pos hc) hf
    refine p_iconst dX0_isFiner_21 (by decide) ?_
    refine p_sub (ls' := []) [] rfl ?_
    exact t_X0_isFiner_22  _ _ hf
  · replace hf := Eq.mp (if_neg hc) hf
    refine p_iconst dX0_isFiner_17 (by decide) ?_
    refine p_goto (tgt := 22) dX0_isFiner_18 (by decide) ?_
    refine p_sub (ls' := []) [] rfl ?_
    exact t_X0_isFiner_22  _ _ hf
theorem ok_X0_isFiner : mOK M_X0_isFiner 4 := ⟨tb_738, tb_12, by decide +kernel⟩
abbrev M_X0_finestOf : MD := (yX0_finestOf, cX0_finestOf, 11, some .int)
abbrev rm_X0_finestOf : Room := { frames := 5, cells := 0, slots := 0, locals := 119 }
def w_X0_finestOf_111 (K : Int → Hh → Prop) (B : Int → Int → Int → Int → Int → Int → Int → Int → Int → Hh → Prop) (X117 : Int → Int → Int → Int → Int → Int → Int → Int → Hh → Prop) (a0 : Int) (v1 v2 v3 v3n v5 v6 v7 v8 v9 : Int) (h : Hh) : Prop := vb (w32 (v9 + 1)) fun z4 => B v1 v2 v3 v3n v5 v6 v7 v8 z4 h
set_option maxRecDepth 100000 in
set_option maxHeartbeats 4000000 in
theorem t_X0_finestOf_111 {G : Gx} {n0 : Int} {K : Int → Hh → Prop} {B : Int → Int → Int → Int → Int → Int → Int → Int → Int → Hh → Prop} {X117 : Int → Int → Int → Int → Int → Int → Int → Int → Hh → Prop} {a0 : Int} (h0 : 0 ≤ a0) (hB : ∀ (v1 v2 v3 v3n v5 v6 v7 v8 v9 : Int) (h : Hh), B v1 v2 v3 v3n v5 v6 v7 v8 v9 h → PW G M_X0_finestOf rm_X0_finestOf 0 0 [] n0 K 28 [(0, vr 0 a0 0), (1, vi v1), (2, vi v2), (3, vr 100 v3 v3n), (5, vi v5), (6, vi v6), (7, vi v7), (8, vi v8), (9, vi v9)] [] [] 0 0 h) (hX117 : ∀ (v1 v2 v3 v3n v5 v6 v7 v8 : Int) (h : Hh), X117 v1 v2 v3 v3n v5 v6 v7 v8 h → PW G M_X0_finestOf rm_X0_finestOf 0 0 [] n0 K 117 [(0, vr 0 a0 0), (1, vi v1), (2, vi v2), (3, vr 100 v3 v3n), (5, vi v5), (6, vi v6), (7, vi v7), (8, vi v8)] [] [] 0 0 h)  (v1 v2 v3 v3n v5 v6 v7 v8 v9 : Int) (h : Hh) (hf : w_X0_finestOf_111 K B X117 a0 v1 v2 v3 v3n v5 v6 v7 v8 v9 h) : PW G M_X0_finestOf rm_X0_finestOf 0 0 [] n0 K 111 [(0, vr 0 a0 0), (1, vi v1), (2, vi v2), (3, vr 100 v3 v3n), (5, vi v5), (6, vi v6), (7, vi v7), (8, vi v8), (9, vi v9)] [] [] 0 0 h := by
  unfold w_X0_finestOf_111 at hf
  refine p_iinc (ls' := [(9, vi (w32 (v9 + 1))), (0, vr 0 a0 0), (1, vi v1), (2, vi v2), (3, vr 100 v3 v3n), (5, vi v5), (6, vi v6), (7, vi v7), (8, vi v8)]) dX0_finestOf_111 8 rfl (by decide) rfl ?_
  replace hf := vb_e hf
  generalize w32 (v9 + 1) = z4 at hf ⊢
  refine p_goto (tgt := 28) dX0_finestOf_114 (by decide) ?_
  refine p_sub (ls' := [(0, vr 0 a0 0), (1, vi v1), (2, vi v2), (3, vr 100 v3 v3n), (5, vi v5), (6, vi v6), (7, vi v7), (8, vi v8), (9, vi z4)]) [1, 2, 3, 4, 5, 6, 7, 8, 0] rfl ?_
  exact hB _ _ _ _ _ _ _ _ _ _ hf
def w_X0_finestOf_73 (K : Int → Hh → Prop) (B : Int → Int → Int → Int → Int → Int → Int → Int → Int → Hh → Prop) (X117 : Int → Int → Int → Int → Int → Int → Int → Int → Hh → Prop) (a0 : Int) (v1 v2 v3 v3n v5 v6 v7 v8 v9 s0 : Int) (h : Hh) : Prop := if s0 = 0 then (w_X0_finestOf_111 K B X117 a0 v1 v2 v3 v3n v5 v6 v7 v8 v9 h) else (0 ≤ v3 ∧ (((0 : Int) ≤ v8 ∧ (v8 : Int) < v3n) ∧ (((0 : Int) ≤ v9 ∧ (v9 : Int) < v3n) ∧ (w_X0_tallWith a0 v1 (h v3 v8) (h v3 v9) h (fun r8 h9 => if r8 > v2 then (w_X0_finestOf_111 K B X117 a0 v1 v2 v3 v3n v5 v6 v7 v8 v9 h9) else (vb (h9 v3 v8) fun z10 => vb (h9 v3 v9) fun z11 => w_X0_finestOf_111 K B X117 a0 v1 v2 v3 v3n z10 z11 v7 v8 v9 h9))))))
set_option maxRecDepth 100000 in
set_option maxHeartbeats 4000000 in
theorem t_X0_finestOf_73 {G : Gx} {n0 : Int} {K : Int → Hh → Prop} {B : Int → Int → Int → Int → Int → Int → Int → Int → Int → Hh → Prop} {X117 : Int → Int → Int → Int → Int → Int → Int → Int → Hh → Prop} {a0 : Int} (h0 : 0 ≤ a0) (hB : ∀ (v1 v2 v3 v3n v5 v6 v7 v8 v9 : Int) (h : Hh), B v1 v2 v3 v3n v5 v6 v7 v8 v9 h → PW G M_X0_finestOf rm_X0_finestOf 0 0 [] n0 K 28 [(0, vr 0 a0 0), (1, vi v1), (2, vi v2), (3, vr 100 v3 v3n), (5, vi v5), (6, vi v6), (7, vi v7), (8, vi v8), (9, vi v9)] [] [] 0 0 h) (hX117 : ∀ (v1 v2 v3 v3n v5 v6 v7 v8 : Int) (h : Hh), X117 v1 v2 v3 v3n v5 v6 v7 v8 h → PW G M_X0_finestOf rm_X0_finestOf 0 0 [] n0 K 117 [(0, vr 0 a0 0), (1, vi v1), (2, vi v2), (3, vr 100 v3 v3n), (5, vi v5), (6, vi v6), (7, vi v7), (8, vi v8)] [] [] 0 0 h)  (v1 v2 v3 v3n v5 v6 v7 v8 v9 s0 : Int) (h : Hh) (hf : w_X0_finestOf_73 K B X117 a0 v1 v2 v3 v3n v5 v6 v7 v8 v9 s0 h) : PW G M_X0_finestOf rm_X0_finestOf 0 0 [] n0 K 73 [(0, vr 0 a0 0), (1, vi v1), (2, vi v2), (3, vr 100 v3 v3n), (5, vi v5), (6, vi v6), (7, vi v7), (8, vi v8), (9, vi v9)] [vi s0] [] 0 0 h := by
  unfold w_X0_finestOf_73 at hf
  refine p_istore (ls' := [(10, vi s0), (0, vr 0 a0 0), (1, vi v1), (2, vi v2), (3, vr 100 v3 v3n), (5, vi v5), (6, vi v6), (7, vi v7), (8, vi v8), (9, vi v9)]) dX0_finestOf_73 (by decide) rfl ?_
  refine p_iload dX0_finestOf_75 0 rfl ?_
  refine p_if_eq (tgt := 111) (q := s0 = 0) dX0_finestOf_77 (by decide) Iff.rfl (fun hc => ?_) (fun hc => ?_)
  · replace hf := Eq.mp (if_pos hc) hf
    refine p_sub (ls' := [(0, vr 0 a0 0), (1, vi v1), (2, vi v2), (3, vr 100 v3 v3n), (5, vi v5), (6, vi v6), (7, vi v7), (8, vi v8), (9, vi v9)]) [1, 2, 3, 4, 5, 6, 7, 8, 9] rfl ?_
    exact t_X0_finestOf_111 h0 hB hX117 _ _ _ _ _ _ _ _ _ _ hf
  · replace hf := Eq.mp (if_neg hc) hf
    refine p_aload_n dX0_finestOf_80 rfl 1 rfl ?_
    refine p_iload_n dX0_finestOf_81 rfl 2 rfl ?_
    refine p_aload_n dX0_finestOf_82 rfl 4 rfl ?_
    refine p_iload dX0_finestOf_83 8 rfl ?_
    obtain ⟨c5, hf⟩ := hf
    obtain ⟨c6, hf⟩ := hf
    refine p_iald dX0_finestOf_85 c5 c6 ?_
    refine p_aload_n dX0_finestOf_86 rfl 4 rfl ?_
    refine p_iload dX0_finestOf_87 9 rfl ?_
    obtain ⟨c7, hf⟩ := hf
    refine p_iald dX0_finestOf_89 c5 c7 ?_
    refine p_callVl dX0_finestOf_90 M_X0_tallWith rfl [vi v1, vi (h v3 v8), vi (h v3 v9)] (t_X0_tallWith _ _ _ _ _ _ h0 hf) ok_X0_tallWith rfl (c := 0) (by decide) h0 rfl tb_739 ⟨tb_677, ts_45⟩ rfl (Nat.le_of_ble_eq_true rfl) ⟨rfl, rfl⟩ ⟨by decide, by decide⟩ ⟨by decide, by decide⟩ (fun r8 h9 hf => ?_)
    refine p_iload_n dX0_finestOf_93 rfl 3 rfl ?_
    refine p_i2l dX0_finestOf_94 ?_
    refine p_lcmp (z := (if r8 < v2 then (-1) else if r8 = v2 then 0 else 1)) dX0_finestOf_95 rfl ?_
    refine p_if_gt (tgt := 111) (q := r8 > v2) dX0_finestOf_96 (by decide) (lc_gt r8 v2) (fun hc => ?_) (fun hc => ?_)
    · replace hf := Eq.mp (if_pos hc) hf
      refine p_sub (ls' := [(0, vr 0 a0 0), (1, vi v1), (2, vi v2), (3, vr 100 v3 v3n), (5, vi v5), (6, vi v6), (7, vi v7), (8, vi v8), (9, vi v9)]) [1, 2, 3, 4, 5, 6, 7, 8, 9] rfl ?_
      exact t_X0_finestOf_111 h0 hB hX117 _ _ _ _ _ _ _ _ _ _ hf
    · replace hf := Eq.mp (if_neg hc) hf
      refine p_aload_n dX0_finestOf_99 rfl 4 rfl ?_
      refine p_iload dX0_finestOf_100 8 rfl ?_
      refine p_iald dX0_finestOf_102 c5 c6 ?_
      refine p_istore (ls' := [(5, vi (h9 v3 v8)), (10, vi s0), (0, vr 0 a0 0), (1, vi v1), (2, vi v2), (3, vr 100 v3 v3n), (6, vi v6), (7, vi v7), (8, vi v8), (9, vi v9)]) dX0_finestOf_103 (by decide) rfl ?_
      replace hf := vb_e hf
      generalize (h9 v3 v8) = z10 at hf ⊢
      refine p_aload_n dX0_finestOf_105 rfl 5 rfl ?_
      refine p_iload dX0_finestOf_106 9 rfl ?_
      refine p_iald dX0_finestOf_108 c5 c7 ?_
      refine p_istore (ls' := [(6, vi (h9 v3 v9)), (5, vi z10), (10, vi s0), (0, vr 0 a0 0), (1, vi v1), (2, vi v2), (3, vr 100 v3 v3n), (7, vi v7), (8, vi v8), (9, vi v9)]) dX0_finestOf_109 (by decide) rfl ?_
      replace hf := vb_e hf
      generalize (h9 v3 v9) = z11 at hf ⊢
      refine p_sub (ls' := [(0, vr 0 a0 0), (1, vi v1), (2, vi v2), (3, vr 100 v3 v3n), (5, vi z10), (6, vi z11), (7, vi v7), (8, vi v8), (9, vi v9)]) [3, 4, 5, 6, 1, 0, 7, 8, 9] rfl ?_
      exact t_X0_finestOf_111 h0 hB hX117 _ _ _ _ _ _ _ _ _ _ hf
def w_X0_finestOf_68 (K : Int → Hh → Prop) (B : Int → Int → Int → Int → Int → Int → Int → Int → Int → Hh → Prop) (X117 : Int → Int → Int → Int → Int → Int → Int → Int → Hh → Prop) (a0 : Int) (v1 v2 v3 v3n v5 v6 v7 v8 v9 : Int) (h : Hh) : Prop := w_X0_finestOf_73 K B X117 a0 v1 v2 v3 v3n v5 v6 v7 v8 v9 1 h
set_option maxRecDepth 100000 in
set_option maxHeartbeats 4000000 in
theorem t_X0_finestOf_68 {G : Gx} {n0 : Int} {K : Int → Hh → Prop} {B : Int → Int → Int → Int → Int → Int → Int → Int → Int → Hh → Prop} {X117 : Int → Int → Int → Int → Int → Int → Int → Int → Hh → Prop} {a0 : Int} (h0 : 0 ≤ a0) (hB : ∀ (v1 v2 v3 v3n v5 v6 v7 v8 v9 : Int) (h : Hh), B v1 v2 v3 v3n v5 v6 v7 v8 v9 h → PW G M_X0_finestOf rm_X0_finestOf 0 0 [] n0 K 28 [(0, vr 0 a0 0), (1, vi v1), (2, vi v2), (3, vr 100 v3 v3n), (5, vi v5), (6, vi v6), (7, vi v7), (8, vi v8), (9, vi v9)] [] [] 0 0 h) (hX117 : ∀ (v1 v2 v3 v3n v5 v6 v7 v8 : Int) (h : Hh), X117 v1 v2 v3 v3n v5 v6 v7 v8 h → PW G M_X0_finestOf rm_X0_finestOf 0 0 [] n0 K 117 [(0, vr 0 a0 0), (1, vi v1), (2, vi v2), (3, vr 100 v3 v3n), (5, vi v5), (6, vi v6), (7, vi v7), (8, vi v8)] [] [] 0 0 h)  (v1 v2 v3 v3n v5 v6 v7 v8 v9 : Int) (h : Hh) (hf : w_X0_finestOf_68 K B X117 a0 v1 v2 v3 v3n v5 v6 v7 v8 v9 h) : PW G M_X0_finestOf rm_X0_finestOf 0 0 [] n0 K 68 [(0, vr 0 a0 0), (1, vi v1), (2, vi v2), (3, vr 100 v3 v3n), (5, vi v5), (6, vi v6), (7, vi v7), (8, vi v8), (9, vi v9)] [] [] 0 0 h := by
  unfold w_X0_finestOf_68 at hf
  refine p_iconst dX0_finestOf_68 (by decide) ?_
  refine p_goto (tgt := 73) dX0_finestOf_69 (by decide) ?_
  exact t_X0_finestOf_73 h0 hB hX117 _ _ _ _ _ _ _ _ _ _ _ hf
def w_X0_finestOf_72 (K : Int → Hh → Prop) (B : Int → Int → Int → Int → Int → Int → Int → Int → Int → Hh → Prop) (X117 : Int → Int → Int → Int → Int → Int → Int → Int → Hh → Prop) (a0 : Int) (v1 v2 v3 v3n v5 v6 v7 v8 v9 : Int) (h : Hh) : Prop := w_X0_finestOf_73 K B X117 a0 v1 v2 v3 v3n v5 v6 v7 v8 v9 0 h
set_option maxRecDepth 100000 in
set_option maxHeartbeats 4000000 in
theorem t_X0_finestOf_72 {G : Gx} {n0 : Int} {K : Int → Hh → Prop} {B : Int → Int → Int → Int → Int → Int → Int → Int → Int → Hh → Prop} {X117 : Int → Int → Int → Int → Int → Int → Int → Int → Hh → Prop} {a0 : Int} (h0 : 0 ≤ a0) (hB : ∀ (v1 v2 v3 v3n v5 v6 v7 v8 v9 : Int) (h : Hh), B v1 v2 v3 v3n v5 v6 v7 v8 v9 h → PW G M_X0_finestOf rm_X0_finestOf 0 0 [] n0 K 28 [(0, vr 0 a0 0), (1, vi v1), (2, vi v2), (3, vr 100 v3 v3n), (5, vi v5), (6, vi v6), (7, vi v7), (8, vi v8), (9, vi v9)] [] [] 0 0 h) (hX117 : ∀ (v1 v2 v3 v3n v5 v6 v7 v8 : Int) (h : Hh), X117 v1 v2 v3 v3n v5 v6 v7 v8 h → PW G M_X0_finestOf rm_X0_finestOf 0 0 [] n0 K 117 [(0, vr 0 a0 0), (1, vi v1), (2, vi v2), (3, vr 100 v3 v3n), (5, vi v5), (6, vi v6), (7, vi v7), (8, vi v8)] [] [] 0 0 h)  (v1 v2 v3 v3n v5 v6 v7 v8 v9 : Int) (h : Hh) (hf : w_X0_finestOf_72 K B X117 a0 v1 v2 v3 v3n v5 v6 v7 v8 v9 h) : PW G M_X0_finestOf rm_X0_finestOf 0 0 [] n0 K 72 [(0, vr 0 a0 0), (1, vi v1), (2, vi v2), (3, vr 100 v3 v3n), (5, vi v5), (6, vi v6), (7, vi v7), (8, vi v8), (9, vi v9)] [] [] 0 0 h := by
  unfold w_X0_finestOf_72 at hf
  refine p_iconst dX0_finestOf_72 (by decide) ?_
  exact t_X0_finestOf_73 h0 hB hX117 _ _ _ _ _ _ _ _ _ _ _ hf
def w_X0_finestOf_28 (K : Int → Hh → Prop) (X117 : Int → Int → Int → Int → Int → Int → Int → Int → Hh → Prop) (a0 : Int) : Nat → Int → Int → Int → Int → Int → Int → Int → Int → Int → Hh → Prop
  | 0, _, _, _, _, _, _, _, _, _, _ => False
  | n + 1, v1, v2, v3, v3n, v5, v6, v7, v8, v9, h => if v9 ≥ v7 then (X117 v1 v2 v3 v3n v5 v6 v7 v8 h) else (if v5 = 0 then (w_X0_finestOf_68 K (w_X0_finestOf_28 K X117 a0 n) X117 a0 v1 v2 v3 v3n v5 v6 v7 v8 v9 h) else (if v1 ≠ w32 ((h a0 3) - 1) then (w_X0_finestOf_72 K (w_X0_finestOf_28 K X117 a0 n) X117 a0 v1 v2 v3 v3n v5 v6 v7 v8 v9 h) else (0 ≤ v3 ∧ (((0 : Int) ≤ v8 ∧ (v8 : Int) < v3n) ∧ (((0 : Int) ≤ v9 ∧ (v9 : Int) < v3n) ∧ (w_X0_isFiner (h v3 v8) (h v3 v9) v5 v6 h (fun r15 h16 => if r15 = 0 then (w_X0_finestOf_72 K (w_X0_finestOf_28 K X117 a0 n) X117 a0 v1 v2 v3 v3n v5 v6 v7 v8 v9 h16) else (w_X0_finestOf_68 K (w_X0_finestOf_28 K X117 a0 n) X117 a0 v1 v2 v3 v3n v5 v6 v7 v8 v9 h16))))))))
set_option maxRecDepth 100000 in
set_option maxHeartbeats 4000000 in
theorem t_X0_finestOf_28 {G : Gx} {n0 : Int} {K : Int → Hh → Prop} {X117 : Int → Int → Int → Int → Int → Int → Int → Int → Hh → Prop} {a0 : Int} (h0 : 0 ≤ a0) (hX117 : ∀ (v1 v2 v3 v3n v5 v6 v7 v8 : Int) (h : Hh), X117 v1 v2 v3 v3n v5 v6 v7 v8 h → PW G M_X0_finestOf rm_X0_finestOf 0 0 [] n0 K 117 [(0, vr 0 a0 0), (1, vi v1), (2, vi v2), (3, vr 100 v3 v3n), (5, vi v5), (6, vi v6), (7, vi v7), (8, vi v8)] [] [] 0 0 h) : ∀ (n : Nat) (v1 v2 v3 v3n v5 v6 v7 v8 v9 : Int) (h : Hh), w_X0_finestOf_28 K X117 a0 n v1 v2 v3 v3n v5 v6 v7 v8 v9 h → PW G M_X0_finestOf rm_X0_finestOf 0 0 [] n0 K 28 [(0, vr 0 a0 0), (1, vi v1), (2, vi v2), (3, vr 100 v3 v3n), (5, vi v5), (6, vi v6), (7, vi v7), (8, vi v8), (9, vi v9)] [] [] 0 0 h := by
  intro n
  induction n with
  | zero =>
    intro v1 v2 v3 v3n v5 v6 v7 v8 v9 h hf
    rw [w_X0_finestOf_28] at hf
    exact hf.elim
  | succ n ih =>
    intro v1 v2 v3 v3n v5 v6 v7 v8 v9 h hf
    rw [w_X0_finestOf_28] at hf
    refine p_iload dX0_finestOf_28 8 rfl ?_
    refine p_iload dX0_finestOf_30 6 rfl ?_
    refine p_icmp_ge (tgt := 117) (q := v9 ≥ v7) dX0_finestOf_32 (by decide) Iff.rfl (fun hc => ?_) (fun hc => ?_)
    · replace hf := Eq.mp (if_pos hc) hf
      refine p_sub (ls' := [(0, vr 0 a0 0), (1, vi v1), (2, vi v2), (3, vr 100 v3 v3n), (5, vi v5), (6, vi v6), (7, vi v7), (8, vi v8)]) [0, 1, 2, 3, 4, 5, 6, 7] rfl ?_
      exact hX117 _ _ _ _ _ _ _ _ _ hf
    · replace hf := Eq.mp (if_neg hc) hf
      refine p_iload dX0_finestOf_35 4 rfl ?_
      refine p_if_eq (tgt := 68) (q := v5 = 0) dX0_finestOf_37 (by decide) Iff.rfl (fun hc => ?_) (fun hc => ?_)
      · replace hf := Eq.mp (if_pos hc) hf
        exact t_X0_finestOf_68 h0 ih hX117 _ _ _ _ _ _ _ _ _ _ hf
      · replace hf := Eq.mp (if_neg hc) hf
        refine p_iload_n dX0_finestOf_40 rfl 1 rfl ?_
        refine p_aload_n dX0_finestOf_41 rfl 0 rfl ?_
        refine p_get (c := 0) (vi (h a0 3)) dX0_finestOf_42 3 tb_498 (by decide) (by decide) (Or.inl rfl) h0 rfl rfl ?_
        refine p_iconst dX0_finestOf_45 (by decide) ?_
        refine p_isub dX0_finestOf_46 ?_
        refine p_icmp_ne (tgt := 72) (q := v1 ≠ w32 ((h a0 3) - 1)) dX0_finestOf_47 (by decide) Iff.rfl (fun hc => ?_) (fun hc => ?_)
        · replace hf := Eq.mp (if_pos hc) hf
          exact t_X0_finestOf_72 h0 ih hX117 _ _ _ _ _ _ _ _ _ _ hf
        · replace hf := Eq.mp (if_neg hc) hf
          refine p_aload_n dX0_finestOf_50 rfl 3 rfl ?_
          refine p_iload dX0_finestOf_51 7 rfl ?_
          obtain ⟨c12, hf⟩ := hf
          obtain ⟨c13, hf⟩ := hf
          refine p_iald dX0_finestOf_53 c12 c13 ?_
          refine p_aload_n dX0_finestOf_54 rfl 3 rfl ?_
          refine p_iload dX0_finestOf_55 8 rfl ?_
          obtain ⟨c14, hf⟩ := hf
          refine p_iald dX0_finestOf_57 c12 c14 ?_
          refine p_iload dX0_finestOf_58 4 rfl ?_
          refine p_iload dX0_finestOf_60 5 rfl ?_
          refine p_callSi dX0_finestOf_62 M_X0_isFiner (Or.inr rfl) [vi (h v3 v8), vi (h v3 v9), vi v5, vi v6] (t_X0_isFiner _ _ _ _ _ _ hf) ok_X0_isFiner rfl tb_736 tb_737 rfl (Nat.le_of_ble_eq_true rfl) ⟨rfl, rfl⟩ ⟨by decide, by decide⟩ ⟨by decide, by decide⟩ (fun r15 h16 hf => ?_)
          refine p_if_eq (tgt := 72) (q := r15 = 0) dX0_finestOf_65 (by decide) Iff.rfl (fun hc => ?_) (fun hc => ?_)
          · replace hf := Eq.mp (if_pos hc) hf
            exact t_X0_finestOf_72 h0 ih hX117 _ _ _ _ _ _ _ _ _ _ hf
          · replace hf := Eq.mp (if_neg hc) hf
            exact t_X0_finestOf_68 h0 ih hX117 _ _ _ _ _ _ _ _ _ _ hf
def w_X0_finestOf_18 (K : Int → Hh → Prop) (X123 : Int → Int → Hh → Prop) (a0 : Int) : Nat → Int → Int → Int → Int → Int → Int → Int → Int → Hh → Prop
  | 0, _, _, _, _, _, _, _, _, _ => False
  | n + 1, v1, v2, v3, v3n, v5, v6, v7, v8, h => if v8 ≥ v7 then (X123 v5 v6 h) else (w_X0_finestOf_28 K (fun u18 u19 u20 u21 u22 u23 u24 u25 h17 => vb (w32 (u25 + 1)) fun z26 => w_X0_finestOf_18 K X123 a0 n u18 u19 u20 u21 u22 u23 u24 z26 h17) a0 NF v1 v2 v3 v3n v5 v6 v7 v8 0 h)
set_option maxRecDepth 100000 in
set_option maxHeartbeats 4000000 in
theorem t_X0_finestOf_18 {G : Gx} {n0 : Int} {K : Int → Hh → Prop} {X123 : Int → Int → Hh → Prop} {a0 : Int} (h0 : 0 ≤ a0) (hX123 : ∀ (v5 v6 : Int) (h : Hh), X123 v5 v6 h → PW G M_X0_finestOf rm_X0_finestOf 0 0 [] n0 K 123 [(5, vi v5), (6, vi v6)] [] [] 0 0 h) : ∀ (n : Nat) (v1 v2 v3 v3n v5 v6 v7 v8 : Int) (h : Hh), w_X0_finestOf_18 K X123 a0 n v1 v2 v3 v3n v5 v6 v7 v8 h → PW G M_X0_finestOf rm_X0_finestOf 0 0 [] n0 K 18 [(0, vr 0 a0 0), (1, vi v1), (2, vi v2), (3, vr 100 v3 v3n), (5, vi v5), (6, vi v6), (7, vi v7), (8, vi v8)] [] [] 0 0 h := by
  intro n
  induction n with
  | zero =>
    intro v1 v2 v3 v3n v5 v6 v7 v8 h hf
    rw [w_X0_finestOf_18] at hf
    exact hf.elim
  | succ n ih =>
    intro v1 v2 v3 v3n v5 v6 v7 v8 h hf
    rw [w_X0_finestOf_18] at hf
    refine p_iload dX0_finestOf_18 7 rfl ?_
    refine p_iload dX0_finestOf_20 6 rfl ?_
    refine p_icmp_ge (tgt := 123) (q := v8 ≥ v7) dX0_finestOf_22 (by decide) Iff.rfl (fun hc => ?_) (fun hc => ?_)
    · replace hf := Eq.mp (if_pos hc) hf
      refine p_sub (ls' := [(5, vi v5), (6, vi v6)]) [4, 5] rfl ?_
      exact hX123 _ _ _ hf
    · replace hf := Eq.mp (if_neg hc) hf
      refine p_iconst dX0_finestOf_25 (by decide) ?_
      refine p_istore (ls' := [(9, vi 0), (0, vr 0 a0 0), (1, vi v1), (2, vi v2), (3, vr 100 v3 v3n), (5, vi v5), (6, vi v6), (7, vi v7), (8, vi v8)]) dX0_finestOf_26 (by decide) rfl ?_
      refine p_sub (ls' := [(0, vr 0 a0 0), (1, vi v1), (2, vi v2), (3, vr 100 v3 v3n), (5, vi v5), (6, vi v6), (7, vi v7), (8, vi v8), (9, vi 0)]) [1, 2, 3, 4, 5, 6, 7, 8, 0] rfl ?_
      refine t_X0_finestOf_28 h0 ?_ NF _ _ _ _ _ _ _ _ _ _ hf
      · intro u18 u19 u20 u21 u22 u23 u24 u25 h17 hf
        refine p_iinc (ls' := [(8, vi (w32 (u25 + 1))), (0, vr 0 a0 0), (1, vi u18), (2, vi u19), (3, vr 100 u20 u21), (5, vi u22), (6, vi u23), (7, vi u24)]) dX0_finestOf_117 7 rfl (by decide) rfl ?_
        replace hf := vb_e hf
        generalize w32 (u25 + 1) = z26 at hf ⊢
        refine p_goto (tgt := 18) dX0_finestOf_120 (by decide) ?_
        refine p_sub (ls' := [(0, vr 0 a0 0), (1, vi u18), (2, vi u19), (3, vr 100 u20 u21), (5, vi u22), (6, vi u23), (7, vi u24), (8, vi z26)]) [1, 2, 3, 4, 5, 6, 7, 0] rfl ?_
        exact ih _ _ _ _ _ _ _ _ _ hf
def w_X0_finestOf_140 (K : Int → Hh → Prop) (a0 : Int) (s0 : Int) (h : Hh) : Prop := K s0 h
set_option maxRecDepth 100000 in
set_option maxHeartbeats 4000000 in
theorem t_X0_finestOf_140 {G : Gx} {n0 : Int} {K : Int → Hh → Prop} {a0 : Int} (h0 : 0 ≤ a0)  (s0 : Int) (h : Hh) (hf : w_X0_finestOf_140 K  a0 s0 h) : PW G M_X0_finestOf rm_X0_finestOf 0 0 [] n0 K 140 [] [vi s0] [] 0 0 h := by
  unfold w_X0_finestOf_140 at hf
  exact p_iret dX0_finestOf_140 rfl (by decide) (by decide) (fun _ h => absurd h List.not_mem_nil) hf
def w_X0_finestOf (a0 x1 x2 x3 n3 x4 : Int) (h : Hh) (K : Int → Hh → Prop) : Prop := 0 ≤ x3 ∧ (w_J9_min_7cf53 x4 n3 h (fun r2 h3 => w_X0_finestOf_18 K (fun u28 u29 h27 => if u28 ≠ 0 then (w_X0_finestOf_140 K  a0 (w32 ((w32 (u28 * 100)) + u29)) h27) else (w_X0_finestOf_140 K  a0 (-1) h27)) a0 NF x1 x2 x3 n3 0 0 r2 0 h3))
set_option maxRecDepth 100000 in
set_option maxHeartbeats 4000000 in
theorem t_X0_finestOf {G : Gx} (a0 x1 x2 x3 n3 x4 : Int) (h : Hh) (K : Int → Hh → Prop) (h0 : 0 ≤ a0) (hf : w_X0_finestOf a0 x1 x2 x3 n3 x4 h K) : CT G M_X0_finestOf rm_X0_finestOf 0 0 [] [vr 0 a0 0, vi x1, vi x2, vr 100 x3 n3, vi x4] h K := by
  unfold w_X0_finestOf at hf
  refine CT.of (ls0 := [(0, vr 0 a0 0), (1, vi x1), (2, vi x2), (3, vr 100 x3 n3), (4, vi x4)]) (plainFor_of_name (by decide +kernel)) (by decide +kernel) (Nat.le_of_ble_eq_true rfl) rfl rfl ?_
  refine p_iconst dX0_finestOf_0 (by decide) ?_
  refine p_istore (ls' := [(5, vi 0), (0, vr 0 a0 0), (1, vi x1), (2, vi x2), (3, vr 100 x3 n3), (4, vi x4)]) dX0_finestOf_1 (by decide) rfl ?_
  refine p_iconst dX0_finestOf_3 (by decide) ?_
  refine p_istore (ls' := [(6, vi 0), (5, vi 0), (0, vr 0 a0 0), (1, vi x1), (2, vi x2), (3, vr 100 x3 n3), (4, vi x4)]) dX0_finestOf_4 (by decide) rfl ?_
  refine p_iload dX0_finestOf_6 6 rfl ?_
  refine p_aload_n dX0_finestOf_8 rfl 5 rfl ?_
  obtain ⟨c1, hf⟩ := hf
  refine p_alen dX0_finestOf_9 (by decide) c1 ?_
  refine p_callSi dX0_finestOf_10 M_J9_min_7cf53 (Or.inl rfl) [vi x4, vi n3] (t_J9_min_7cf53 _ _ _ _ hf) ok_J9_min_7cf53 rfl tb_470 tb_471 rfl (Nat.le_of_ble_eq_true rfl) ⟨rfl, rfl⟩ ⟨by decide, by decide⟩ ⟨by decide, by decide⟩ (fun r2 h3 hf => ?_)
  refine p_istore (ls' := [(7, vi r2), (6, vi 0), (5, vi 0), (0, vr 0 a0 0), (1, vi x1), (2, vi x2), (3, vr 100 x3 n3), (4, vi x4)]) dX0_finestOf_13 (by decide) rfl ?_
  refine p_iconst dX0_finestOf_15 (by decide) ?_
  refine p_istore (ls' := [(8, vi 0), (7, vi r2), (6, vi 0), (5, vi 0), (0, vr 0 a0 0), (1, vi x1), (2, vi x2), (3, vr 100 x3 n3), (4, vi x4)]) dX0_finestOf_16 (by decide) rfl ?_
  refine p_sub (ls' := [(0, vr 0 a0 0), (1, vi x1), (2, vi x2), (3, vr 100 x3 n3), (5, vi 0), (6, vi 0), (7, vi r2), (8, vi 0)]) [4, 5, 6, 7, 3, 2, 1, 0] rfl ?_
  refine t_X0_finestOf_18 h0 ?_ NF _ _ _ _ _ _ _ _ _ hf
  · intro u28 u29 h27 hf
    refine p_iload dX0_finestOf_123 0 rfl ?_
    refine p_if_ne (tgt := 132) (q := u28 ≠ 0) dX0_finestOf_125 (by decide) Iff.rfl (fun hc => ?_) (fun hc => ?_)
    · replace hf := Eq.mp (if_pos hc) hf
      refine p_iload dX0_finestOf_132 0 rfl ?_
      refine p_bipush dX0_finestOf_134 (by decide) (by decide) ?_
      refine p_imul dX0_finestOf_136 ?_
      refine p_iload dX0_finestOf_137 1 rfl ?_
      refine p_iadd dX0_finestOf_139 ?_
      refine p_sub (ls' := []) [] rfl ?_
      exact t_X0_finestOf_140 h0  _ _ hf
    · replace hf := Eq.mp (if_neg hc) hf
      refine p_iconst dX0_finestOf_128 (by decide) ?_
      refine p_goto (tgt := 140) dX0_finestOf_129 (by decide) ?_
      refine p_sub (ls' := []) [] rfl ?_
      exact t_X0_finestOf_140 h0  _ _ hf
theorem ok_X0_finestOf : mOK M_X0_finestOf 4 := ⟨tb_735, tb_12, by decide +kernel⟩
abbrev M_X1_init : MD := (yX1_init, cX1_init, 1, none)
abbrev rm_X1_init : Room := { frames := 1, cells := 5, slots := 200, locals := 20 }
def w_X1_init (a0 : Int) (h : Hh) (K : Int → Hh → Prop) : Prop := (h (-1) 0 = a0 + 1) ∧ (hb (nw h (fun _ => 0)) fun h2 => hb (up h2 a0 0 (a0 + 1)) fun h3 => (h3 (-1) 0 = a0 + 2) ∧ (hb (nw h3 (fun _ => 0)) fun h5 => hb (up h5 a0 1 (a0 + 2)) fun h6 => (h6 (-1) 0 = a0 + 3) ∧ (hb (nw h6 (fun _ => 0)) fun h8 => hb (up h8 a0 2 (a0 + 3)) fun h9 => (h9 (-1) 0 = a0 + 4) ∧ (hb (nw h9 (fun _ => 0)) fun h11 => hb (up h11 a0 3 (a0 + 4)) fun h12 => (h12 (-1) 0 = a0 + 5) ∧ (hb (nw h12 (fun _ => 0)) fun h14 => hb (up h14 a0 4 (a0 + 5)) fun h15 => K 0 h15)))))
set_option maxRecDepth 100000 in
set_option maxHeartbeats 4000000 in
theorem t_X1_init {G : Gx} (a0 : Int) (h : Hh) (K : Int → Hh → Prop) (h0 : 0 ≤ a0) (hf : w_X1_init a0 h K) : CT G M_X1_init rm_X1_init 5 200 [vr 100 (a0 + 1) 40, vr 100 (a0 + 2) 40, vr 100 (a0 + 3) 40, vr 100 (a0 + 4) 40, vr 100 (a0 + 5) 40] [vr 51 a0 0] h K := by
  unfold w_X1_init at hf
  refine CT.of (ls0 := [(0, vr 51 a0 0)]) (plainFor_of_name (by decide +kernel)) (by decide +kernel) (Nat.le_of_ble_eq_true rfl) rfl rfl ?_
  refine p_aload_n dX1_init_0 rfl 0 rfl ?_
  refine p_oinit dX1_init_1 tb_85 tb_22 tb_23 (by decide) h0 (Nat.le_of_ble_eq_true rfl) ⟨by decide, by decide⟩ ?_
  refine p_aload_n dX1_init_4 rfl 0 rfl ?_
  refine p_bipush dX1_init_5 (by decide) (by decide) ?_
  obtain ⟨c1, hf⟩ := hf
  refine p_newa (t := 100) (ti := 0) (ty := .int) (z := a0 + 1) dX1_init_7 rfl (Or.inl ⟨rfl, rfl⟩) rfl tb_75 (by decide) c1 ⟨by decide, by decide⟩ ?_
  replace hf := hb_e hf
  generalize nw h (fun _ => 0) = h2 at hf ⊢
  refine p_norm (kn' := [vr 100 (a0 + 1) 40]) (cells' := 1) (slots' := 40) rfl rfl rfl ?_
  refine p_putaF (c := 1) dX1_init_9 0 tb_86 (by decide) (by decide) (Or.inr rfl) h0 rfl rfl rfl rfl rfl (by decide) (fun q => absurd q (by decide)) (up h2 a0 0 (a0 + 1)) rfl ?_
  replace hf := hb_e hf
  generalize up h2 a0 0 (a0 + 1) = h3 at hf ⊢
  refine p_aload_n dX1_init_12 rfl 0 rfl ?_
  refine p_bipush dX1_init_13 (by decide) (by decide) ?_
  obtain ⟨c4, hf⟩ := hf
  refine p_newa (t := 100) (ti := 0) (ty := .int) (z := a0 + 2) dX1_init_15 rfl (Or.inl ⟨rfl, rfl⟩) rfl tb_75 (by decide) c4 ⟨by decide, by decide⟩ ?_
  replace hf := hb_e hf
  generalize nw h3 (fun _ => 0) = h5 at hf ⊢
  refine p_norm (kn' := [vr 100 (a0 + 2) 40, vr 100 (a0 + 1) 40]) (cells' := 2) (slots' := 80) rfl rfl rfl ?_
  refine p_putaF (c := 1) dX1_init_17 1 tb_87 (by decide) (by decide) (Or.inr rfl) h0 rfl rfl rfl rfl rfl (by decide) (fun q => absurd q (by decide)) (up h5 a0 1 (a0 + 2)) rfl ?_
  replace hf := hb_e hf
  generalize up h5 a0 1 (a0 + 2) = h6 at hf ⊢
  refine p_aload_n dX1_init_20 rfl 0 rfl ?_
  refine p_bipush dX1_init_21 (by decide) (by decide) ?_
  obtain ⟨c7, hf⟩ := hf
  refine p_newa (t := 100) (ti := 0) (ty := .int) (z := a0 + 3) dX1_init_23 rfl (Or.inl ⟨rfl, rfl⟩) rfl tb_75 (by decide) c7 ⟨by decide, by decide⟩ ?_
  replace hf := hb_e hf
  generalize nw h6 (fun _ => 0) = h8 at hf ⊢
  refine p_norm (kn' := [vr 100 (a0 + 3) 40, vr 100 (a0 + 2) 40, vr 100 (a0 + 1) 40]) (cells' := 3) (slots' := 120) rfl rfl rfl ?_
  refine p_putaF (c := 1) dX1_init_25 2 tb_88 (by decide) (by decide) (Or.inr rfl) h0 rfl rfl rfl rfl rfl (by decide) (fun q => absurd q (by decide)) (up h8 a0 2 (a0 + 3)) rfl ?_
  replace hf := hb_e hf
  generalize up h8 a0 2 (a0 + 3) = h9 at hf ⊢
  refine p_aload_n dX1_init_28 rfl 0 rfl ?_
  refine p_bipush dX1_init_29 (by decide) (by decide) ?_
  obtain ⟨c10, hf⟩ := hf
  refine p_newa (t := 100) (ti := 0) (ty := .int) (z := a0 + 4) dX1_init_31 rfl (Or.inl ⟨rfl, rfl⟩) rfl tb_75 (by decide) c10 ⟨by decide, by decide⟩ ?_
  replace hf := hb_e hf
  generalize nw h9 (fun _ => 0) = h11 at hf ⊢
  refine p_norm (kn' := [vr 100 (a0 + 4) 40, vr 100 (a0 + 3) 40, vr 100 (a0 + 2) 40, vr 100 (a0 + 1) 40]) (cells' := 4) (slots' := 160) rfl rfl rfl ?_
  refine p_putaF (c := 1) dX1_init_33 3 tb_89 (by decide) (by decide) (Or.inr rfl) h0 rfl rfl rfl rfl rfl (by decide) (fun q => absurd q (by decide)) (up h11 a0 3 (a0 + 4)) rfl ?_
  replace hf := hb_e hf
  generalize up h11 a0 3 (a0 + 4) = h12 at hf ⊢
  refine p_aload_n dX1_init_36 rfl 0 rfl ?_
  refine p_bipush dX1_init_37 (by decide) (by decide) ?_
  obtain ⟨c13, hf⟩ := hf
  refine p_newa (t := 100) (ti := 0) (ty := .int) (z := a0 + 5) dX1_init_39 rfl (Or.inl ⟨rfl, rfl⟩) rfl tb_75 (by decide) c13 ⟨by decide, by decide⟩ ?_
  replace hf := hb_e hf
  generalize nw h12 (fun _ => 0) = h14 at hf ⊢
  refine p_norm (kn' := [vr 100 (a0 + 5) 40, vr 100 (a0 + 4) 40, vr 100 (a0 + 3) 40, vr 100 (a0 + 2) 40, vr 100 (a0 + 1) 40]) (cells' := 5) (slots' := 200) rfl rfl rfl ?_
  refine p_putaF (c := 1) dX1_init_41 4 tb_90 (by decide) (by decide) (Or.inr rfl) h0 rfl rfl rfl rfl rfl (by decide) (fun q => absurd q (by decide)) (up h14 a0 4 (a0 + 5)) rfl ?_
  replace hf := hb_e hf
  generalize up h14 a0 4 (a0 + 5) = h15 at hf ⊢
  exact p_vret dX1_init_44 rfl (by decide) (by decide) (List.forall_mem_cons.mpr ⟨List.mem_of_getElem? (i := 4) rfl, List.forall_mem_cons.mpr ⟨List.mem_of_getElem? (i := 3) rfl, List.forall_mem_cons.mpr ⟨List.mem_of_getElem? (i := 2) rfl, List.forall_mem_cons.mpr ⟨List.mem_of_getElem? (i := 1) rfl, List.forall_mem_cons.mpr ⟨List.mem_of_getElem? (i := 0) rfl, fun _ h => absurd h List.not_mem_nil⟩⟩⟩⟩⟩) hf
theorem ok_X1_init : mOK M_X1_init 0 := ⟨tb_84, tb_4, by decide +kernel⟩
abbrev M_X1_isFull : MD := (yX1_isFull, cX1_isFull, 1, some .boolean)
abbrev rm_X1_isFull : Room := { frames := 0, cells := 0, slots := 0, locals := 0 }
def w_X1_isFull_14 (K : Int → Hh → Prop) (a0 : Int) (s0 : Int) (h : Hh) : Prop := (s0 = 0 ∨ s0 = 1) ∧ (K s0 h)
set_option maxRecDepth 100000 in
set_option maxHeartbeats 4000000 in
theorem t_X1_isFull_14 {G : Gx} {n0 : Int} {K : Int → Hh → Prop} {a0 : Int} (h0 : 0 ≤ a0)  (s0 : Int) (h : Hh) (hf : w_X1_isFull_14 K  a0 s0 h) : PW G M_X1_isFull rm_X1_isFull 0 0 [] n0 K 14 [] [vi s0] [] 0 0 h := by
  unfold w_X1_isFull_14 at hf
  obtain ⟨c1, hf⟩ := hf
  exact p_zret dX1_isFull_14 rfl (by decide) (by decide) (fun _ h => absurd h List.not_mem_nil) c1 hf
def w_X1_isFull (a0 : Int) (h : Hh) (K : Int → Hh → Prop) : Prop := if h a0 5 < 40 then (w_X1_isFull_14 K  a0 0 h) else (w_X1_isFull_14 K  a0 1 h)
set_option maxRecDepth 100000 in
set_option maxHeartbeats 4000000 in
theorem t_X1_isFull {G : Gx} (a0 : Int) (h : Hh) (K : Int → Hh → Prop) (h0 : 0 ≤ a0) (hf : w_X1_isFull a0 h K) : CT G M_X1_isFull rm_X1_isFull 0 0 [] [vr 1 a0 0] h K := by
  unfold w_X1_isFull at hf
  refine CT.of (ls0 := [(0, vr 1 a0 0)]) (plainFor_of_name (by decide +kernel)) (by decide +kernel) (Nat.le_of_ble_eq_true rfl) rfl rfl ?_
  refine p_aload_n dX1_isFull_0 rfl 0 rfl ?_
  refine p_get (c := 1) (vi (h a0 5)) dX1_isFull_1 5 tb_91 (by decide) (by decide) (Or.inl rfl) h0 rfl rfl ?_
  refine p_bipush dX1_isFull_4 (by decide) (by decide) ?_
  refine p_icmp_lt (tgt := 13) (q := h a0 5 < 40) dX1_isFull_6 (by decide) Iff.rfl (fun hc => ?_) (fun hc => ?_)
  · replace hf := Eq.mp (if_pos hc) hf
    refine p_iconst dX1_isFull_13 (by decide) ?_
    refine p_sub (ls' := []) [] rfl ?_
    exact t_X1_isFull_14 h0  _ _ hf
  · replace hf := Eq.mp (if_neg hc) hf
    refine p_iconst dX1_isFull_9 (by decide) ?_
    refine p_goto (tgt := 14) dX1_isFull_10 (by decide) ?_
    refine p_sub (ls' := []) [] rfl ?_
    exact t_X1_isFull_14 h0  _ _ hf
theorem ok_X1_isFull : mOK M_X1_isFull 0 := ⟨tb_775, tb_4, by decide +kernel⟩
abbrev M_X1_add : MD := (yX1_add, cX1_add, 6, none)
abbrev rm_X1_add : Room := { frames := 1, cells := 0, slots := 0, locals := 20 }
def w_X1_add (a0 x1 x2 x3 x4 x5 : Int) (h : Hh) (K : Int → Hh → Prop) : Prop := w_X1_isFull a0 h (fun r1 h2 => if r1 = 0 then (((0 : Int) ≤ h2 a0 5 ∧ (h2 a0 5 : Int) < 40) ∧ (hb (up h2 (a0 + 1) (h2 a0 5) x1) fun h4 => ((0 : Int) ≤ h4 a0 5 ∧ (h4 a0 5 : Int) < 40) ∧ (hb (up h4 (a0 + 2) (h4 a0 5) x2) fun h6 => ((0 : Int) ≤ h6 a0 5 ∧ (h6 a0 5 : Int) < 40) ∧ (hb (up h6 (a0 + 3) (h6 a0 5) x3) fun h8 => ((0 : Int) ≤ h8 a0 5 ∧ (h8 a0 5 : Int) < 40) ∧ (hb (up h8 (a0 + 4) (h8 a0 5) x4) fun h10 => ((0 : Int) ≤ h10 a0 5 ∧ (h10 a0 5 : Int) < 40) ∧ (hb (up h10 (a0 + 5) (h10 a0 5) x5) fun h12 => hb (up h12 a0 5 (w32 ((h12 a0 5) + 1))) fun h13 => K 0 h13)))))) else (K 0 h2))
set_option maxRecDepth 100000 in
set_option maxHeartbeats 4000000 in
theorem t_X1_add {G : Gx} (a0 x1 x2 x3 x4 x5 : Int) (h : Hh) (K : Int → Hh → Prop) (h0 : 0 ≤ a0) (hf : w_X1_add a0 x1 x2 x3 x4 x5 h K) : CT G M_X1_add rm_X1_add 0 0 [] [vr 1 a0 0, vi x1, vi x2, vi x3, vi x4, vi x5] h K := by
  unfold w_X1_add at hf
  refine CT.of (ls0 := [(0, vr 1 a0 0), (1, vi x1), (2, vi x2), (3, vi x3), (4, vi x4), (5, vi x5)]) (plainFor_of_name (by decide +kernel)) (by decide +kernel) (Nat.le_of_ble_eq_true rfl) rfl rfl ?_
  refine p_aload_n dX1_add_0 rfl 0 rfl ?_
  refine p_callVi dX1_add_1 M_X1_isFull (Or.inr rfl) [] (t_X1_isFull _ _ _ h0 hf) ok_X1_isFull rfl (c := 1) (by decide) h0 rfl tb_782 ⟨tb_774, ts_55⟩ rfl (Nat.le_of_ble_eq_true rfl) ⟨rfl, rfl⟩ ⟨by decide, by decide⟩ ⟨by decide, by decide⟩ (fun r1 h2 hf => ?_)
  refine p_if_eq (tgt := 8) (q := r1 = 0) dX1_add_4 (by decide) Iff.rfl (fun hc => ?_) (fun hc => ?_)
  · replace hf := Eq.mp (if_pos hc) hf
    refine p_aload_n dX1_add_8 rfl 0 rfl ?_
    refine p_lay (c := 1) (tq := 100) (n := 40) dX1_add_9 0 1 tb_86 (by decide) (by decide) h0 (by decide) (by decide) (fun _ => rfl) (vr 100 (a0 + 1) 40) rfl ?_
    refine p_aload_n dX1_add_12 rfl 0 rfl ?_
    refine p_get (c := 1) (vi (h2 a0 5)) dX1_add_13 5 tb_91 (by decide) (by decide) (Or.inl rfl) h0 rfl rfl ?_
    refine p_iload_n dX1_add_16 rfl 1 rfl ?_
    obtain ⟨c3, hf⟩ := hf
    refine p_iast dX1_add_17 (nnk h0 (by decide)) c3 ?_
    replace hf := hb_e hf
    generalize up h2 (a0 + 1) (h2 a0 5) x1 = h4 at hf ⊢
    refine p_aload_n dX1_add_18 rfl 0 rfl ?_
    refine p_lay (c := 1) (tq := 100) (n := 40) dX1_add_19 1 2 tb_87 (by decide) (by decide) h0 (by decide) (by decide) (fun _ => rfl) (vr 100 (a0 + 2) 40) rfl ?_
    refine p_aload_n dX1_add_22 rfl 0 rfl ?_
    refine p_get (c := 1) (vi (h4 a0 5)) dX1_add_23 5 tb_91 (by decide) (by decide) (Or.inl rfl) h0 rfl rfl ?_
    refine p_iload_n dX1_add_26 rfl 2 rfl ?_
    obtain ⟨c5, hf⟩ := hf
    refine p_iast dX1_add_27 (nnk h0 (by decide)) c5 ?_
    replace hf := hb_e hf
    generalize up h4 (a0 + 2) (h4 a0 5) x2 = h6 at hf ⊢
    refine p_aload_n dX1_add_28 rfl 0 rfl ?_
    refine p_lay (c := 1) (tq := 100) (n := 40) dX1_add_29 2 3 tb_88 (by decide) (by decide) h0 (by decide) (by decide) (fun _ => rfl) (vr 100 (a0 + 3) 40) rfl ?_
    refine p_aload_n dX1_add_32 rfl 0 rfl ?_
    refine p_get (c := 1) (vi (h6 a0 5)) dX1_add_33 5 tb_91 (by decide) (by decide) (Or.inl rfl) h0 rfl rfl ?_
    refine p_iload_n dX1_add_36 rfl 3 rfl ?_
    obtain ⟨c7, hf⟩ := hf
    refine p_iast dX1_add_37 (nnk h0 (by decide)) c7 ?_
    replace hf := hb_e hf
    generalize up h6 (a0 + 3) (h6 a0 5) x3 = h8 at hf ⊢
    refine p_aload_n dX1_add_38 rfl 0 rfl ?_
    refine p_lay (c := 1) (tq := 100) (n := 40) dX1_add_39 3 4 tb_89 (by decide) (by decide) h0 (by decide) (by decide) (fun _ => rfl) (vr 100 (a0 + 4) 40) rfl ?_
    refine p_aload_n dX1_add_42 rfl 0 rfl ?_
    refine p_get (c := 1) (vi (h8 a0 5)) dX1_add_43 5 tb_91 (by decide) (by decide) (Or.inl rfl) h0 rfl rfl ?_
    refine p_iload dX1_add_46 4 rfl ?_
    obtain ⟨c9, hf⟩ := hf
    refine p_iast dX1_add_48 (nnk h0 (by decide)) c9 ?_
    replace hf := hb_e hf
    generalize up h8 (a0 + 4) (h8 a0 5) x4 = h10 at hf ⊢
    refine p_aload_n dX1_add_49 rfl 0 rfl ?_
    refine p_lay (c := 1) (tq := 100) (n := 40) dX1_add_50 4 5 tb_90 (by decide) (by decide) h0 (by decide) (by decide) (fun _ => rfl) (vr 100 (a0 + 5) 40) rfl ?_
    refine p_aload_n dX1_add_53 rfl 0 rfl ?_
    refine p_get (c := 1) (vi (h10 a0 5)) dX1_add_54 5 tb_91 (by decide) (by decide) (Or.inl rfl) h0 rfl rfl ?_
    refine p_iload dX1_add_57 5 rfl ?_
    obtain ⟨c11, hf⟩ := hf
    refine p_iast dX1_add_59 (nnk h0 (by decide)) c11 ?_
    replace hf := hb_e hf
    generalize up h10 (a0 + 5) (h10 a0 5) x5 = h12 at hf ⊢
    refine p_aload_n dX1_add_60 rfl 0 rfl ?_
    refine p_dup dX1_add_61 (fun _ q => by cases q) ?_
    refine p_get (c := 1) (vi (h12 a0 5)) dX1_add_62 5 tb_91 (by decide) (by decide) (Or.inl rfl) h0 rfl rfl ?_
    refine p_iconst dX1_add_65 (by decide) ?_
    refine p_iadd dX1_add_66 ?_
    refine p_puti (c := 1) dX1_add_67 5 tb_91 (by decide) (by decide) (Or.inl rfl) h0 rfl rfl (fun _ => by decide) (up h12 a0 5 (w32 ((h12 a0 5) + 1))) rfl ?_
    replace hf := hb_e hf
    generalize up h12 a0 5 (w32 ((h12 a0 5) + 1)) = h13 at hf ⊢
    exact p_vret dX1_add_70 rfl (by decide) (by decide) (fun _ h => absurd h List.not_mem_nil) hf
  · replace hf := Eq.mp (if_neg hc) hf
    exact p_vret dX1_add_7 rfl (by decide) (by decide) (fun _ h => absurd h List.not_mem_nil) hf
theorem ok_X1_add : mOK M_X1_add 5 := ⟨tb_781, tb_4, by decide +kernel⟩
abbrev M_X1_numberOn : MD := (yX1_numberOn, cX1_numberOn, 6, some .int)
abbrev rm_X1_numberOn : Room := { frames := 0, cells := 0, slots := 0, locals := 0 }
def w_X1_numberOn_66 (K : Int → Hh → Prop) (B : Int → Int → Int → Int → Int → Hh → Prop) (a0 : Int) (v1 v2 v3 v4 v5 : Int) (h : Hh) : Prop := vb (w32 (v5 + (-1))) fun z3 => B v1 v2 v3 v4 z3 h
set_option maxRecDepth 100000 in
set_option maxHeartbeats 4000000 in
theorem t_X1_numberOn_66 {G : Gx} {n0 : Int} {K : Int → Hh → Prop} {B : Int → Int → Int → Int → Int → Hh → Prop} {a0 : Int} (h0 : 0 ≤ a0) (hB : ∀ (v1 v2 v3 v4 v5 : Int) (h : Hh), B v1 v2 v3 v4 v5 h → PW G M_X1_numberOn rm_X1_numberOn 0 0 [] n0 K 8 [(0, vr 1 a0 0), (1, vi v1), (2, vi v2), (3, vi v3), (4, vi v4), (5, vi v5)] [] [] 0 0 h)  (v1 v2 v3 v4 v5 : Int) (h : Hh) (hf : w_X1_numberOn_66 K B a0 v1 v2 v3 v4 v5 h) : PW G M_X1_numberOn rm_X1_numberOn 0 0 [] n0 K 66 [(0, vr 1 a0 0), (1, vi v1), (2, vi v2), (3, vi v3), (4, vi v4), (5, vi v5)] [] [] 0 0 h := by
  unfold w_X1_numberOn_66 at hf
  refine p_iinc (ls' := [(5, vi (w32 (v5 + (-1)))), (0, vr 1 a0 0), (1, vi v1), (2, vi v2), (3, vi v3), (4, vi v4)]) dX1_numberOn_66 5 rfl (by decide) rfl ?_
  replace hf := vb_e hf
  generalize w32 (v5 + (-1)) = z3 at hf ⊢
  refine p_goto (tgt := 8) dX1_numberOn_69 (by decide) ?_
  refine p_sub (ls' := [(0, vr 1 a0 0), (1, vi v1), (2, vi v2), (3, vi v3), (4, vi v4), (5, vi z3)]) [1, 2, 3, 4, 5, 0] rfl ?_
  exact hB _ _ _ _ _ _ hf
def w_X1_numberOn_8 (K : Int → Hh → Prop) (a0 : Int) : Nat → Int → Int → Int → Int → Int → Hh → Prop
  | 0, _, _, _, _, _, _ => False
  | n + 1, v1, v2, v3, v4, v5, h => if v5 < 0 then (K (-2147483648) h) else (((0 : Int) ≤ v5 ∧ (v5 : Int) < 40) ∧ (if h (a0 + 5) v5 > v1 then (w_X1_numberOn_66 K (w_X1_numberOn_8 K  a0 n) a0 v1 v2 v3 v4 v5 h) else (if h (a0 + 1) v5 ≠ v2 then (w_X1_numberOn_66 K (w_X1_numberOn_8 K  a0 n) a0 v1 v2 v3 v4 v5 h) else (if h (a0 + 2) v5 ≠ v3 then (w_X1_numberOn_66 K (w_X1_numberOn_8 K  a0 n) a0 v1 v2 v3 v4 v5 h) else (if h (a0 + 3) v5 ≠ v4 then (w_X1_numberOn_66 K (w_X1_numberOn_8 K  a0 n) a0 v1 v2 v3 v4 v5 h) else (K (h (a0 + 4) v5) h))))))
set_option maxRecDepth 100000 in
set_option maxHeartbeats 4000000 in
theorem t_X1_numberOn_8 {G : Gx} {n0 : Int} {K : Int → Hh → Prop} {a0 : Int} (h0 : 0 ≤ a0) : ∀ (n : Nat) (v1 v2 v3 v4 v5 : Int) (h : Hh), w_X1_numberOn_8 K  a0 n v1 v2 v3 v4 v5 h → PW G M_X1_numberOn rm_X1_numberOn 0 0 [] n0 K 8 [(0, vr 1 a0 0), (1, vi v1), (2, vi v2), (3, vi v3), (4, vi v4), (5, vi v5)] [] [] 0 0 h := by
  intro n
  induction n with
  | zero =>
    intro v1 v2 v3 v4 v5 h hf
    rw [w_X1_numberOn_8] at hf
    exact hf.elim
  | succ n ih =>
    intro v1 v2 v3 v4 v5 h hf
    rw [w_X1_numberOn_8] at hf
    refine p_iload dX1_numberOn_8 5 rfl ?_
    refine p_if_lt (tgt := 72) (q := v5 < 0) dX1_numberOn_10 (by decide) Iff.rfl (fun hc => ?_) (fun hc => ?_)
    · replace hf := Eq.mp (if_pos hc) hf
      refine p_ldc (z := (-2147483648)) dX1_numberOn_72 tb_604 (by decide) ?_
      exact p_iret dX1_numberOn_74 rfl (by decide) (by decide) (fun _ h => absurd h List.not_mem_nil) hf
    · replace hf := Eq.mp (if_neg hc) hf
      refine p_aload_n dX1_numberOn_13 rfl 0 rfl ?_
      refine p_lay (c := 1) (tq := 100) (n := 40) dX1_numberOn_14 4 5 tb_90 (by decide) (by decide) h0 (by decide) (by decide) (fun _ => rfl) (vr 100 (a0 + 5) 40) rfl ?_
      refine p_iload dX1_numberOn_17 5 rfl ?_
      obtain ⟨c2, hf⟩ := hf
      refine p_iald dX1_numberOn_19 (nnk h0 (by decide)) c2 ?_
      refine p_iload_n dX1_numberOn_20 rfl 1 rfl ?_
      refine p_icmp_gt (tgt := 66) (q := h (a0 + 5) v5 > v1) dX1_numberOn_21 (by decide) Iff.rfl (fun hc => ?_) (fun hc => ?_)
      · replace hf := Eq.mp (if_pos hc) hf
        exact t_X1_numberOn_66 h0 ih _ _ _ _ _ _ hf
      · replace hf := Eq.mp (if_neg hc) hf
        refine p_aload_n dX1_numberOn_24 rfl 0 rfl ?_
        refine p_lay (c := 1) (tq := 100) (n := 40) dX1_numberOn_25 0 1 tb_86 (by decide) (by decide) h0 (by decide) (by decide) (fun _ => rfl) (vr 100 (a0 + 1) 40) rfl ?_
        refine p_iload dX1_numberOn_28 5 rfl ?_
        refine p_iald dX1_numberOn_30 (nnk h0 (by decide)) c2 ?_
        refine p_iload_n dX1_numberOn_31 rfl 2 rfl ?_
        refine p_icmp_ne (tgt := 66) (q := h (a0 + 1) v5 ≠ v2) dX1_numberOn_32 (by decide) Iff.rfl (fun hc => ?_) (fun hc => ?_)
        · replace hf := Eq.mp (if_pos hc) hf
          exact t_X1_numberOn_66 h0 ih _ _ _ _ _ _ hf
        · replace hf := Eq.mp (if_neg hc) hf
          refine p_aload_n dX1_numberOn_35 rfl 0 rfl ?_
          refine p_lay (c := 1) (tq := 100) (n := 40) dX1_numberOn_36 1 2 tb_87 (by decide) (by decide) h0 (by decide) (by decide) (fun _ => rfl) (vr 100 (a0 + 2) 40) rfl ?_
          refine p_iload dX1_numberOn_39 5 rfl ?_
          refine p_iald dX1_numberOn_41 (nnk h0 (by decide)) c2 ?_
          refine p_iload_n dX1_numberOn_42 rfl 3 rfl ?_
          refine p_icmp_ne (tgt := 66) (q := h (a0 + 2) v5 ≠ v3) dX1_numberOn_43 (by decide) Iff.rfl (fun hc => ?_) (fun hc => ?_)
          · replace hf := Eq.mp (if_pos hc) hf
            exact t_X1_numberOn_66 h0 ih _ _ _ _ _ _ hf
          · replace hf := Eq.mp (if_neg hc) hf
            refine p_aload_n dX1_numberOn_46 rfl 0 rfl ?_
            refine p_lay (c := 1) (tq := 100) (n := 40) dX1_numberOn_47 2 3 tb_88 (by decide) (by decide) h0 (by decide) (by decide) (fun _ => rfl) (vr 100 (a0 + 3) 40) rfl ?_
            refine p_iload dX1_numberOn_50 5 rfl ?_
            refine p_iald dX1_numberOn_52 (nnk h0 (by decide)) c2 ?_
            refine p_iload dX1_numberOn_53 4 rfl ?_
            refine p_icmp_ne (tgt := 66) (q := h (a0 + 3) v5 ≠ v4) dX1_numberOn_55 (by decide) Iff.rfl (fun hc => ?_) (fun hc => ?_)
            · replace hf := Eq.mp (if_pos hc) hf
              exact t_X1_numberOn_66 h0 ih _ _ _ _ _ _ hf
            · replace hf := Eq.mp (if_neg hc) hf
              refine p_aload_n dX1_numberOn_58 rfl 0 rfl ?_
              refine p_lay (c := 1) (tq := 100) (n := 40) dX1_numberOn_59 3 4 tb_89 (by decide) (by decide) h0 (by decide) (by decide) (fun _ => rfl) (vr 100 (a0 + 4) 40) rfl ?_
              refine p_iload dX1_numberOn_62 5 rfl ?_
              refine p_iald dX1_numberOn_64 (nnk h0 (by decide)) c2 ?_
              exact p_iret dX1_numberOn_65 rfl (by decide) (by decide) (fun _ h => absurd h List.not_mem_nil) hf
def w_X1_numberOn (a0 x1 x2 x3 x4 : Int) (h : Hh) (K : Int → Hh → Prop) : Prop := vb (w32 ((h a0 5) - 1)) fun z1 => w_X1_numberOn_8 K  a0 NF x1 x2 x3 x4 z1 h
set_option maxRecDepth 100000 in
set_option maxHeartbeats 4000000 in
theorem t_X1_numberOn {G : Gx} (a0 x1 x2 x3 x4 : Int) (h : Hh) (K : Int → Hh → Prop) (h0 : 0 ≤ a0) (hf : w_X1_numberOn a0 x1 x2 x3 x4 h K) : CT G M_X1_numberOn rm_X1_numberOn 0 0 [] [vr 1 a0 0, vi x1, vi x2, vi x3, vi x4] h K := by
  unfold w_X1_numberOn at hf
  refine CT.of (ls0 := [(0, vr 1 a0 0), (1, vi x1), (2, vi x2), (3, vi x3), (4, vi x4)]) (plainFor_of_name (by decide +kernel)) (by decide +kernel) (Nat.le_of_ble_eq_true rfl) rfl rfl ?_
  refine p_aload_n dX1_numberOn_0 rfl 0 rfl ?_
  refine p_get (c := 1) (vi (h a0 5)) dX1_numberOn_1 5 tb_91 (by decide) (by decide) (Or.inl rfl) h0 rfl rfl ?_
  refine p_iconst dX1_numberOn_4 (by decide) ?_
  refine p_isub dX1_numberOn_5 ?_
  refine p_istore (ls' := [(5, vi (w32 ((h a0 5) - 1))), (0, vr 1 a0 0), (1, vi x1), (2, vi x2), (3, vi x3), (4, vi x4)]) dX1_numberOn_6 (by decide) rfl ?_
  replace hf := vb_e hf
  generalize (w32 ((h a0 5) - 1)) = z1 at hf ⊢
  refine p_sub (ls' := [(0, vr 1 a0 0), (1, vi x1), (2, vi x2), (3, vi x3), (4, vi x4), (5, vi z1)]) [1, 2, 3, 4, 5, 0] rfl ?_
  refine t_X1_numberOn_8 h0  NF _ _ _ _ _ _ hf
theorem ok_X1_numberOn : mOK M_X1_numberOn 4 := ⟨tb_603, tb_4, by decide +kernel⟩
abbrev M_X2_init : MD := (yX2_init, cX2_init, 1, none)
abbrev rm_X2_init : Room := { frames := 1, cells := 4, slots := 512, locals := 20 }
def w_X2_init (a0 : Int) (h : Hh) (K : Int → Hh → Prop) : Prop := (h (-1) 0 = a0 + 1) ∧ (hb (nw h (fun _ => 0)) fun h2 => hb (up h2 a0 0 (a0 + 1)) fun h3 => (h3 (-1) 0 = a0 + 2) ∧ (hb (nw h3 (fun _ => 0)) fun h5 => hb (up h5 a0 1 (a0 + 2)) fun h6 => (h6 (-1) 0 = a0 + 3) ∧ (hb (nw h6 (fun _ => 0)) fun h8 => hb (up h8 a0 2 (a0 + 3)) fun h9 => (h9 (-1) 0 = a0 + 4) ∧ (hb (nw h9 (fun _ => 0)) fun h11 => hb (up h11 a0 3 (a0 + 4)) fun h12 => K 0 h12))))
set_option maxRecDepth 100000 in
set_option maxHeartbeats 4000000 in
theorem t_X2_init {G : Gx} (a0 : Int) (h : Hh) (K : Int → Hh → Prop) (h0 : 0 ≤ a0) (hf : w_X2_init a0 h K) : CT G M_X2_init rm_X2_init 4 512 [vr 100 (a0 + 1) 200, vr 100 (a0 + 2) 240, vr 100 (a0 + 3) 60, vr 100 (a0 + 4) 12] [vr 52 a0 0] h K := by
  unfold w_X2_init at hf
  refine CT.of (ls0 := [(0, vr 52 a0 0)]) (plainFor_of_name (by decide +kernel)) (by decide +kernel) (Nat.le_of_ble_eq_true rfl) rfl rfl ?_
  refine p_aload_n dX2_init_0 rfl 0 rfl ?_
  refine p_oinit dX2_init_1 tb_196 tb_22 tb_23 (by decide) h0 (Nat.le_of_ble_eq_true rfl) ⟨by decide, by decide⟩ ?_
  refine p_aload_n dX2_init_4 rfl 0 rfl ?_
  refine p_sipush dX2_init_5 (by decide) (by decide) ?_
  obtain ⟨c1, hf⟩ := hf
  refine p_newa (t := 100) (ti := 0) (ty := .int) (z := a0 + 1) dX2_init_8 rfl (Or.inl ⟨rfl, rfl⟩) rfl tb_75 (by decide) c1 ⟨by decide, by decide⟩ ?_
  replace hf := hb_e hf
  generalize nw h (fun _ => 0) = h2 at hf ⊢
  refine p_norm (kn' := [vr 100 (a0 + 1) 200]) (cells' := 1) (slots' := 200) rfl rfl rfl ?_
  refine p_putaF (c := 2) dX2_init_10 0 tb_197 (by decide) (by decide) (Or.inr rfl) h0 rfl rfl rfl rfl rfl (by decide) (fun q => absurd q (by decide)) (up h2 a0 0 (a0 + 1)) rfl ?_
  replace hf := hb_e hf
  generalize up h2 a0 0 (a0 + 1) = h3 at hf ⊢
  refine p_aload_n dX2_init_13 rfl 0 rfl ?_
  refine p_sipush dX2_init_14 (by decide) (by decide) ?_
  obtain ⟨c4, hf⟩ := hf
  refine p_newa (t := 100) (ti := 0) (ty := .int) (z := a0 + 2) dX2_init_17 rfl (Or.inl ⟨rfl, rfl⟩) rfl tb_75 (by decide) c4 ⟨by decide, by decide⟩ ?_
  replace hf := hb_e hf
  generalize nw h3 (fun _ => 0) = h5 at hf ⊢
  refine p_norm (kn' := [vr 100 (a0 + 2) 240, vr 100 (a0 + 1) 200]) (cells' := 2) (slots' := 440) rfl rfl rfl ?_
  refine p_putaF (c := 2) dX2_init_19 1 tb_198 (by decide) (by decide) (Or.inr rfl) h0 rfl rfl rfl rfl rfl (by decide) (fun q => absurd q (by decide)) (up h5 a0 1 (a0 + 2)) rfl ?_
  replace hf := hb_e hf
  generalize up h5 a0 1 (a0 + 2) = h6 at hf ⊢
  refine p_aload_n dX2_init_22 rfl 0 rfl ?_
  refine p_bipush dX2_init_23 (by decide) (by decide) ?_
  obtain ⟨c7, hf⟩ := hf
  refine p_newa (t := 100) (ti := 0) (ty := .int) (z := a0 + 3) dX2_init_25 rfl (Or.inl ⟨rfl, rfl⟩) rfl tb_75 (by decide) c7 ⟨by decide, by decide⟩ ?_
  replace hf := hb_e hf
  generalize nw h6 (fun _ => 0) = h8 at hf ⊢
  refine p_norm (kn' := [vr 100 (a0 + 3) 60, vr 100 (a0 + 2) 240, vr 100 (a0 + 1) 200]) (cells' := 3) (slots' := 500) rfl rfl rfl ?_
  refine p_putaF (c := 2) dX2_init_27 2 tb_199 (by decide) (by decide) (Or.inr rfl) h0 rfl rfl rfl rfl rfl (by decide) (fun q => absurd q (by decide)) (up h8 a0 2 (a0 + 3)) rfl ?_
  replace hf := hb_e hf
  generalize up h8 a0 2 (a0 + 3) = h9 at hf ⊢
  refine p_aload_n dX2_init_30 rfl 0 rfl ?_
  refine p_bipush dX2_init_31 (by decide) (by decide) ?_
  obtain ⟨c10, hf⟩ := hf
  refine p_newa (t := 100) (ti := 0) (ty := .int) (z := a0 + 4) dX2_init_33 rfl (Or.inl ⟨rfl, rfl⟩) rfl tb_75 (by decide) c10 ⟨by decide, by decide⟩ ?_
  replace hf := hb_e hf
  generalize nw h9 (fun _ => 0) = h11 at hf ⊢
  refine p_norm (kn' := [vr 100 (a0 + 4) 12, vr 100 (a0 + 3) 60, vr 100 (a0 + 2) 240, vr 100 (a0 + 1) 200]) (cells' := 4) (slots' := 512) rfl rfl rfl ?_
  refine p_putaF (c := 2) dX2_init_35 3 tb_200 (by decide) (by decide) (Or.inr rfl) h0 rfl rfl rfl rfl rfl (by decide) (fun q => absurd q (by decide)) (up h11 a0 3 (a0 + 4)) rfl ?_
  replace hf := hb_e hf
  generalize up h11 a0 3 (a0 + 4) = h12 at hf ⊢
  exact p_vret dX2_init_38 rfl (by decide) (by decide) (List.forall_mem_cons.mpr ⟨List.mem_of_getElem? (i := 3) rfl, List.forall_mem_cons.mpr ⟨List.mem_of_getElem? (i := 2) rfl, List.forall_mem_cons.mpr ⟨List.mem_of_getElem? (i := 1) rfl, List.forall_mem_cons.mpr ⟨List.mem_of_getElem? (i := 0) rfl, fun _ h => absurd h List.not_mem_nil⟩⟩⟩⟩) hf
theorem ok_X2_init : mOK M_X2_init 0 := ⟨tb_195, tb_8, by decide +kernel⟩
abbrev M_J7_fill_53178 : MD := (yJ7_fill_53178, cJ7_fill_53178, 4, none)
abbrev rm_J7_fill_53178 : Room := { frames := 0, cells := 0, slots := 0, locals := 0 }
def w_J7_fill_53178_5 (K : Int → Hh → Prop) : Nat → Int → Int → Int → Int → Int → Hh → Prop
  | 0, _, _, _, _, _, _ => False
  | n + 1, v0, v0n, v1, v2, v3, h => if v2 ≥ v3 then (K 0 h) else (0 ≤ v0 ∧ (((0 : Int) ≤ v2 ∧ (v2 : Int) < v0n) ∧ (hb (up h v0 v2 v1) fun h4 => vb (w32 (v2 + 1)) fun z5 => w_J7_fill_53178_5 K   n v0 v0n v1 z5 v3 h4)))
set_option maxRecDepth 100000 in
set_option maxHeartbeats 4000000 in
theorem t_J7_fill_53178_5 {G : Gx} {n0 : Int} {K : Int → Hh → Prop} : ∀ (n : Nat) (v0 v0n v1 v2 v3 : Int) (h : Hh), w_J7_fill_53178_5 K   n v0 v0n v1 v2 v3 h → PW G M_J7_fill_53178 rm_J7_fill_53178 0 0 [] n0 K 5 [(0, vr 100 v0 v0n), (1, vi v1), (2, vi v2), (3, vi v3)] [] [] 0 0 h := by
  intro n
  induction n with
  | zero =>
    intro v0 v0n v1 v2 v3 h hf
    rw [w_J7_fill_53178_5] at hf
    exact hf.elim
  | succ n ih =>
    intro v0 v0n v1 v2 v3 h hf
    rw [w_J7_fill_53178_5] at hf
    refine p_iload_n dJ7_fill_53178_5 rfl 2 rfl ?_
    refine p_iload_n dJ7_fill_53178_6 rfl 3 rfl ?_
    refine p_icmp_ge (tgt := 20) (q := v2 ≥ v3) dJ7_fill_53178_7 (by decide) Iff.rfl (fun hc => ?_) (fun hc => ?_)
    · replace hf := Eq.mp (if_pos hc) hf
      exact p_vret dJ7_fill_53178_20 rfl (by decide) (by decide) (fun _ h => absurd h List.not_mem_nil) hf
    · replace hf := Eq.mp (if_neg hc) hf
      refine p_aload_n dJ7_fill_53178_10 rfl 0 rfl ?_
      refine p_iload_n dJ7_fill_53178_11 rfl 2 rfl ?_
      refine p_iload_n dJ7_fill_53178_12 rfl 1 rfl ?_
      obtain ⟨c2, hf⟩ := hf
      obtain ⟨c3, hf⟩ := hf
      refine p_iast dJ7_fill_53178_13 c2 c3 ?_
      replace hf := hb_e hf
      generalize up h v0 v2 v1 = h4 at hf ⊢
      refine p_iinc (ls' := [(2, vi (w32 (v2 + 1))), (0, vr 100 v0 v0n), (1, vi v1), (3, vi v3)]) dJ7_fill_53178_14 2 rfl (by decide) rfl ?_
      replace hf := vb_e hf
      generalize w32 (v2 + 1) = z5 at hf ⊢
      refine p_goto (tgt := 5) dJ7_fill_53178_17 (by decide) ?_
      refine p_sub (ls' := [(0, vr 100 v0 v0n), (1, vi v1), (2, vi z5), (3, vi v3)]) [1, 2, 0, 3] rfl ?_
      exact ih _ _ _ _ _ _ hf
def w_J7_fill_53178 (x0 n0 x1 : Int) (h : Hh) (K : Int → Hh → Prop) : Prop := 0 ≤ x0 ∧ (w_J7_fill_53178_5 K   NF x0 n0 x1 0 n0 h)
set_option maxRecDepth 100000 in
set_option maxHeartbeats 4000000 in
theorem t_J7_fill_53178 {G : Gx} (x0 n0 x1 : Int) (h : Hh) (K : Int → Hh → Prop) (hf : w_J7_fill_53178 x0 n0 x1 h K) : CT G M_J7_fill_53178 rm_J7_fill_53178 0 0 [] [vr 100 x0 n0, vi x1] h K := by
  unfold w_J7_fill_53178 at hf
  refine CT.of (ls0 := [(0, vr 100 x0 n0), (1, vi x1)]) (by decide +kernel) (by decide +kernel) (Nat.le_of_ble_eq_true rfl) rfl rfl ?_
  refine p_iconst dJ7_fill_53178_0 (by decide) ?_
  refine p_istore_n (ls' := [(2, vi 0), (0, vr 100 x0 n0), (1, vi x1)]) dJ7_fill_53178_1 rfl (by decide) rfl ?_
  refine p_aload_n dJ7_fill_53178_2 rfl 1 rfl ?_
  obtain ⟨c1, hf⟩ := hf
  refine p_alen dJ7_fill_53178_3 (by decide) c1 ?_
  refine p_istore_n (ls' := [(3, vi n0), (2, vi 0), (0, vr 100 x0 n0), (1, vi x1)]) dJ7_fill_53178_4 rfl (by decide) rfl ?_
  refine p_sub (ls' := [(0, vr 100 x0 n0), (1, vi x1), (2, vi 0), (3, vi n0)]) [2, 3, 1, 0] rfl ?_
  refine t_J7_fill_53178_5  NF _ _ _ _ _ _ hf
theorem ok_J7_fill_53178 : mOK M_J7_fill_53178 2 := ⟨tb_825, tb_14, by decide +kernel⟩
abbrev M_X2_startOver : MD := (yX2_startOver, cX2_startOver, 1, none)
abbrev rm_X2_startOver : Room := { frames := 1, cells := 0, slots := 0, locals := 23 }
def w_X2_startOver (a0 : Int) (h : Hh) (K : Int → Hh → Prop) : Prop := w_J7_fill_53178 (a0 + 1) 200 0 h (fun _ h1 => hb (up h1 a0 4 0) fun h2 => K 0 h2)
set_option maxRecDepth 100000 in
set_option maxHeartbeats 4000000 in
theorem t_X2_startOver {G : Gx} (a0 : Int) (h : Hh) (K : Int → Hh → Prop) (h0 : 0 ≤ a0) (hf : w_X2_startOver a0 h K) : CT G M_X2_startOver rm_X2_startOver 0 0 [] [vr 2 a0 0] h K := by
  unfold w_X2_startOver at hf
  refine CT.of (ls0 := [(0, vr 2 a0 0)]) (plainFor_of_name (by decide +kernel)) (by decide +kernel) (Nat.le_of_ble_eq_true rfl) rfl rfl ?_
  refine p_aload_n dX2_startOver_0 rfl 0 rfl ?_
  refine p_lay (c := 2) (tq := 100) (n := 200) dX2_startOver_1 0 1 tb_197 (by decide) (by decide) h0 (by decide) (by decide) (fun _ => rfl) (vr 100 (a0 + 1) 200) rfl ?_
  refine p_iconst dX2_startOver_4 (by decide) ?_
  refine p_callSv dX2_startOver_5 M_J7_fill_53178 rfl [vr 100 (a0 + 1) 200, vi 0] (t_J7_fill_53178 _ _ _ _ _ hf) ok_J7_fill_53178 rfl tb_846 tb_824 rfl (Nat.le_of_ble_eq_true rfl) ⟨rfl, rfl⟩ ⟨by decide, by decide⟩ ⟨by decide, by decide⟩ (fun _ h1 hf => ?_)
  refine p_aload_n dX2_startOver_8 rfl 0 rfl ?_
  refine p_iconst dX2_startOver_9 (by decide) ?_
  refine p_puti (c := 2) dX2_startOver_10 4 tb_201 (by decide) (by decide) (Or.inl rfl) h0 rfl rfl (fun _ => by decide) (up h1 a0 4 0) rfl ?_
  replace hf := hb_e hf
  generalize up h1 a0 4 0 = h2 at hf ⊢
  exact p_vret dX2_startOver_13 rfl (by decide) (by decide) (fun _ h => absurd h List.not_mem_nil) hf
theorem ok_X2_startOver : mOK M_X2_startOver 0 := ⟨tb_845, tb_8, by decide +kernel⟩
abbrev M_X2_add : MD := (yX2_add, cX2_add, 6, none)
abbrev rm_X2_add : Room := { frames := 1, cells := 0, slots := 0, locals := 24 }
def w_X2_add_107 (K : Int → Hh → Prop) (B : Int → Int → Int → Int → Hh → Prop) (X113 : Int → Hh → Prop) (a0 : Int) (v1 v2 v3 v4 : Int) (h : Hh) : Prop := vb (w32 (v4 + 1)) fun z6 => B v1 v2 v3 z6 h
set_option maxRecDepth 100000 in
set_option maxHeartbeats 4000000 in
theorem t_X2_add_107 {G : Gx} {n0 : Int} {K : Int → Hh → Prop} {B : Int → Int → Int → Int → Hh → Prop} {X113 : Int → Hh → Prop} {a0 : Int} (h0 : 0 ≤ a0) (hB : ∀ (v1 v2 v3 v4 : Int) (h : Hh), B v1 v2 v3 v4 h → PW G M_X2_add rm_X2_add 0 0 [] n0 K 17 [(0, vr 2 a0 0), (1, vr 0 v1 0), (2, vi v2), (3, vi v3), (4, vi v4)] [] [] 0 0 h) (hX113 : ∀ (v3 : Int) (h : Hh), X113 v3 h → PW G M_X2_add rm_X2_add 0 0 [] n0 K 113 [(0, vr 2 a0 0), (3, vi v3)] [] [] 0 0 h)  (v1 v2 v3 v4 : Int) (h : Hh) (hf : w_X2_add_107 K B X113 a0 v1 v2 v3 v4 h) : PW G M_X2_add rm_X2_add 0 0 [] n0 K 107 [(0, vr 2 a0 0), (1, vr 0 v1 0), (2, vi v2), (3, vi v3), (4, vi v4)] [] [] 0 0 h := by
  unfold w_X2_add_107 at hf
  refine p_iinc (ls' := [(4, vi (w32 (v4 + 1))), (0, vr 2 a0 0), (1, vr 0 v1 0), (2, vi v2), (3, vi v3)]) dX2_add_107 4 rfl (by decide) rfl ?_
  replace hf := vb_e hf
  generalize w32 (v4 + 1) = z6 at hf ⊢
  refine p_goto (tgt := 17) dX2_add_110 (by decide) ?_
  refine p_sub (ls' := [(0, vr 2 a0 0), (1, vr 0 v1 0), (2, vi v2), (3, vi v3), (4, vi z6)]) [1, 2, 3, 4, 0] rfl ?_
  exact hB _ _ _ _ _ hf
def w_X2_add_87 (K : Int → Hh → Prop) (B : Int → Int → Int → Int → Hh → Prop) (X113 : Int → Hh → Prop) (a0 : Int) (v1 v2 v3 v4 v5 : Int) (h : Hh) : Prop := if v3 = 0 then (w_X2_add_107 K B X113 a0 v1 v2 v3 v4 h) else (((0 : Int) ≤ w32 ((w32 ((h a0 4) * 4)) + v4) ∧ (w32 ((w32 ((h a0 4) * 4)) + v4) : Int) < 240) ∧ (hb (up h (a0 + 2) (w32 ((w32 ((h a0 4) * 4)) + v4)) v5) fun h8 => w_X2_add_107 K B X113 a0 v1 v2 v3 v4 h8))
set_option maxRecDepth 100000 in
set_option maxHeartbeats 4000000 in
theorem t_X2_add_87 {G : Gx} {n0 : Int} {K : Int → Hh → Prop} {B : Int → Int → Int → Int → Hh → Prop} {X113 : Int → Hh → Prop} {a0 : Int} (h0 : 0 ≤ a0) (hB : ∀ (v1 v2 v3 v4 : Int) (h : Hh), B v1 v2 v3 v4 h → PW G M_X2_add rm_X2_add 0 0 [] n0 K 17 [(0, vr 2 a0 0), (1, vr 0 v1 0), (2, vi v2), (3, vi v3), (4, vi v4)] [] [] 0 0 h) (hX113 : ∀ (v3 : Int) (h : Hh), X113 v3 h → PW G M_X2_add rm_X2_add 0 0 [] n0 K 113 [(0, vr 2 a0 0), (3, vi v3)] [] [] 0 0 h)  (v1 v2 v3 v4 v5 : Int) (h : Hh) (hf : w_X2_add_87 K B X113 a0 v1 v2 v3 v4 v5 h) : PW G M_X2_add rm_X2_add 0 0 [] n0 K 87 [(0, vr 2 a0 0), (1, vr 0 v1 0), (2, vi v2), (3, vi v3), (4, vi v4), (5, vi v5)] [] [] 0 0 h := by
  unfold w_X2_add_87 at hf
  refine p_iload_n dX2_add_87 rfl 3 rfl ?_
  refine p_if_eq (tgt := 107) (q := v3 = 0) dX2_add_88 (by decide) Iff.rfl (fun hc => ?_) (fun hc => ?_)
  · replace hf := Eq.mp (if_pos hc) hf
    refine p_sub (ls' := [(0, vr 2 a0 0), (1, vr 0 v1 0), (2, vi v2), (3, vi v3), (4, vi v4)]) [0, 1, 2, 3, 4] rfl ?_
    exact t_X2_add_107 h0 hB hX113 _ _ _ _ _ hf
  · replace hf := Eq.mp (if_neg hc) hf
    refine p_aload_n dX2_add_91 rfl 0 rfl ?_
    refine p_lay (c := 2) (tq := 100) (n := 240) dX2_add_92 1 2 tb_198 (by decide) (by decide) h0 (by decide) (by decide) (fun _ => rfl) (vr 100 (a0 + 2) 240) rfl ?_
    refine p_aload_n dX2_add_95 rfl 0 rfl ?_
    refine p_get (c := 2) (vi (h a0 4)) dX2_add_96 4 tb_201 (by decide) (by decide) (Or.inl rfl) h0 rfl rfl ?_
    refine p_iconst dX2_add_99 (by decide) ?_
    refine p_imul dX2_add_100 ?_
    refine p_iload dX2_add_101 4 rfl ?_
    refine p_iadd dX2_add_103 ?_
    refine p_iload dX2_add_104 5 rfl ?_
    obtain ⟨c7, hf⟩ := hf
    refine p_iast dX2_add_106 (nnk h0 (by decide)) c7 ?_
    replace hf := hb_e hf
    generalize up h (a0 + 2) (w32 ((w32 ((h a0 4) * 4)) + v4)) v5 = h8 at hf ⊢
    refine p_sub (ls' := [(0, vr 2 a0 0), (1, vr 0 v1 0), (2, vi v2), (3, vi v3), (4, vi v4)]) [0, 1, 2, 3, 4] rfl ?_
    exact t_X2_add_107 h0 hB hX113 _ _ _ _ _ hf
def w_X2_add_86 (K : Int → Hh → Prop) (B : Int → Int → Int → Int → Hh → Prop) (X113 : Int → Hh → Prop) (a0 : Int) (v1 v2 v3 v4 v5 s0 s1 s2 s2n : Int) (h : Hh) : Prop := 0 ≤ s2 ∧ (((0 : Int) ≤ s1 ∧ (s1 : Int) < s2n) ∧ (hb (up h s2 s1 s0) fun h11 => w_X2_add_87 K B X113 a0 v1 v2 v3 v4 v5 h11))
set_option maxRecDepth 100000 in
set_option maxHeartbeats 4000000 in
theorem t_X2_add_86 {G : Gx} {n0 : Int} {K : Int → Hh → Prop} {B : Int → Int → Int → Int → Hh → Prop} {X113 : Int → Hh → Prop} {a0 : Int} (h0 : 0 ≤ a0) (hB : ∀ (v1 v2 v3 v4 : Int) (h : Hh), B v1 v2 v3 v4 h → PW G M_X2_add rm_X2_add 0 0 [] n0 K 17 [(0, vr 2 a0 0), (1, vr 0 v1 0), (2, vi v2), (3, vi v3), (4, vi v4)] [] [] 0 0 h) (hX113 : ∀ (v3 : Int) (h : Hh), X113 v3 h → PW G M_X2_add rm_X2_add 0 0 [] n0 K 113 [(0, vr 2 a0 0), (3, vi v3)] [] [] 0 0 h)  (v1 v2 v3 v4 v5 s0 s1 s2 s2n : Int) (h : Hh) (hf : w_X2_add_86 K B X113 a0 v1 v2 v3 v4 v5 s0 s1 s2 s2n h) : PW G M_X2_add rm_X2_add 0 0 [] n0 K 86 [(0, vr 2 a0 0), (1, vr 0 v1 0), (2, vi v2), (3, vi v3), (4, vi v4), (5, vi v5)] [vi s0, vi s1, vr 100 s2 s2n] [] 0 0 h := by
  unfold w_X2_add_86 at hf
  obtain ⟨c9, hf⟩ := hf
  obtain ⟨c10, hf⟩ := hf
  refine p_iast dX2_add_86 c9 c10 ?_
  replace hf := hb_e hf
  generalize up h s2 s1 s0 = h11 at hf ⊢
  exact t_X2_add_87 h0 hB hX113 _ _ _ _ _ _ hf
def w_X2_add_17 (K : Int → Hh → Prop) (X113 : Int → Hh → Prop) (a0 : Int) : Nat → Int → Int → Int → Int → Hh → Prop
  | 0, _, _, _, _, _ => False
  | n + 1, v1, v2, v3, v4, h => 0 ≤ v1 ∧ (if v4 ≥ h v1 2 then (X113 v3 h) else (((0 : Int) ≤ v4 ∧ (v4 : Int) < 4) ∧ (w_X0_markAt v1 v2 v4 h (fun r3 h4 => vb (w32 ((w32 ((h (v1 + 1) v4) * 40)) + r3)) fun z5 => if z5 < 0 then (w_X2_add_87 K (w_X2_add_17 K X113 a0 n) X113 a0 v1 v2 v3 v4 z5 h4) else (if z5 ≥ 200 then (w_X2_add_87 K (w_X2_add_17 K X113 a0 n) X113 a0 v1 v2 v3 v4 z5 h4) else (if v3 = 0 then (w_X2_add_86 K (w_X2_add_17 K X113 a0 n) X113 a0 v1 v2 v3 v4 z5 2 z5 (a0 + 1) 200 h4) else (((0 : Int) ≤ z5 ∧ (z5 : Int) < 200) ∧ (w_J9_max_7cf53 (h4 (a0 + 1) z5) 1 h4 (fun r13 h14 => w_X2_add_86 K (w_X2_add_17 K X113 a0 n) X113 a0 v1 v2 v3 v4 z5 r13 z5 (a0 + 1) 200 h14)))))))))
set_option maxRecDepth 100000 in
set_option maxHeartbeats 4000000 in
theorem t_X2_add_17 {G : Gx} {n0 : Int} {K : Int → Hh → Prop} {X113 : Int → Hh → Prop} {a0 : Int} (h0 : 0 ≤ a0) (hX113 : ∀ (v3 : Int) (h : Hh), X113 v3 h → PW G M_X2_add rm_X2_add 0 0 [] n0 K 113 [(0, vr 2 a0 0), (3, vi v3)] [] [] 0 0 h) : ∀ (n : Nat) (v1 v2 v3 v4 : Int) (h : Hh), w_X2_add_17 K X113 a0 n v1 v2 v3 v4 h → PW G M_X2_add rm_X2_add 0 0 [] n0 K 17 [(0, vr 2 a0 0), (1, vr 0 v1 0), (2, vi v2), (3, vi v3), (4, vi v4)] [] [] 0 0 h := by
  intro n
  induction n with
  | zero =>
    intro v1 v2 v3 v4 h hf
    rw [w_X2_add_17] at hf
    exact hf.elim
  | succ n ih =>
    intro v1 v2 v3 v4 h hf
    rw [w_X2_add_17] at hf
    refine p_iload dX2_add_17 4 rfl ?_
    refine p_aload_n dX2_add_19 rfl 1 rfl ?_
    obtain ⟨c1, hf⟩ := hf
    refine p_getN (c := 0) (vi (h v1 2)) dX2_add_20 2 tb_496 (by decide) (by decide) (Or.inl rfl) c1 rfl rfl ?_
    refine p_icmp_ge (tgt := 113) (q := v4 ≥ h v1 2) dX2_add_23 (by decide) Iff.rfl (fun hc => ?_) (fun hc => ?_)
    · replace hf := Eq.mp (if_pos hc) hf
      refine p_sub (ls' := [(0, vr 2 a0 0), (3, vi v3)]) [0, 3] rfl ?_
      exact hX113 _ _ hf
    · replace hf := Eq.mp (if_neg hc) hf
      refine p_aload_n dX2_add_26 rfl 1 rfl ?_
      refine p_layN (c := 0) (tq := 100) (n := 4) dX2_add_27 5 1 tb_503 (by decide) (by decide) c1 (by decide) (by decide) (fun _ => rfl) (vr 100 (v1 + 1) 4) rfl ?_
      refine p_iload dX2_add_30 4 rfl ?_
      obtain ⟨c2, hf⟩ := hf
      refine p_iald dX2_add_32 (nnk c1 (by decide)) c2 ?_
      refine p_bipush dX2_add_33 (by decide) (by decide) ?_
      refine p_imul dX2_add_35 ?_
      refine p_aload_n dX2_add_36 rfl 1 rfl ?_
      refine p_iload_n dX2_add_37 rfl 2 rfl ?_
      refine p_iload dX2_add_38 4 rfl ?_
      refine p_callVNi dX2_add_40 M_X0_markAt (Or.inl rfl) [vi v2, vi v4] (t_X0_markAt _ _ _ _ _ c1 hf) ok_X0_markAt rfl (c := 0) (by decide) c1 rfl tb_851 ⟨tb_598, ts_33⟩ rfl (Nat.le_of_ble_eq_true rfl) ⟨rfl, rfl⟩ ⟨by decide, by decide⟩ ⟨by decide, by decide⟩ (fun r3 h4 hf => ?_)
      refine p_iadd dX2_add_43 ?_
      refine p_istore (ls' := [(5, vi (w32 ((w32 ((h (v1 + 1) v4) * 40)) + r3))), (0, vr 2 a0 0), (1, vr 0 v1 0), (2, vi v2), (3, vi v3), (4, vi v4)]) dX2_add_44 (by decide) rfl ?_
      replace hf := vb_e hf
      generalize (w32 ((w32 ((h (v1 + 1) v4) * 40)) + r3)) = z5 at hf ⊢
      refine p_iload dX2_add_46 0 rfl ?_
      refine p_if_lt (tgt := 87) (q := z5 < 0) dX2_add_48 (by decide) Iff.rfl (fun hc => ?_) (fun hc => ?_)
      · replace hf := Eq.mp (if_pos hc) hf
        refine p_sub (ls' := [(0, vr 2 a0 0), (1, vr 0 v1 0), (2, vi v2), (3, vi v3), (4, vi v4), (5, vi z5)]) [1, 2, 3, 4, 5, 0] rfl ?_
        exact t_X2_add_87 h0 ih hX113 _ _ _ _ _ _ hf
      · replace hf := Eq.mp (if_neg hc) hf
        refine p_iload dX2_add_51 0 rfl ?_
        refine p_aload_n dX2_add_53 rfl 1 rfl ?_
        refine p_lay (c := 2) (tq := 100) (n := 200) dX2_add_54 0 1 tb_197 (by decide) (by decide) h0 (by decide) (by decide) (fun _ => rfl) (vr 100 (a0 + 1) 200) rfl ?_
        refine p_alen dX2_add_57 (by decide) (nnk h0 (by decide)) ?_
        refine p_icmp_ge (tgt := 87) (q := z5 ≥ 200) dX2_add_58 (by decide) Iff.rfl (fun hc => ?_) (fun hc => ?_)
        · replace hf := Eq.mp (if_pos hc) hf
          refine p_sub (ls' := [(0, vr 2 a0 0), (1, vr 0 v1 0), (2, vi v2), (3, vi v3), (4, vi v4), (5, vi z5)]) [1, 2, 3, 4, 5, 0] rfl ?_
          exact t_X2_add_87 h0 ih hX113 _ _ _ _ _ _ hf
        · replace hf := Eq.mp (if_neg hc) hf
          refine p_aload_n dX2_add_61 rfl 1 rfl ?_
          refine p_lay (c := 2) (tq := 100) (n := 200) dX2_add_62 0 1 tb_197 (by decide) (by decide) h0 (by decide) (by decide) (fun _ => rfl) (vr 100 (a0 + 1) 200) rfl ?_
          refine p_iload dX2_add_65 0 rfl ?_
          refine p_iload_n dX2_add_67 rfl 4 rfl ?_
          refine p_if_eq (tgt := 85) (q := v3 = 0) dX2_add_68 (by decide) Iff.rfl (fun hc => ?_) (fun hc => ?_)
          · replace hf := Eq.mp (if_pos hc) hf
            refine p_iconst dX2_add_85 (by decide) ?_
            refine p_sub (ls' := [(0, vr 2 a0 0), (1, vr 0 v1 0), (2, vi v2), (3, vi v3), (4, vi v4), (5, vi z5)]) [1, 2, 3, 4, 5, 0] rfl ?_
            exact t_X2_add_86 h0 ih hX113 _ _ _ _ _ _ _ _ _ _ hf
          · replace hf := Eq.mp (if_neg hc) hf
            refine p_aload_n dX2_add_71 rfl 1 rfl ?_
            refine p_lay (c := 2) (tq := 100) (n := 200) dX2_add_72 0 1 tb_197 (by decide) (by decide) h0 (by decide) (by decide) (fun _ => rfl) (vr 100 (a0 + 1) 200) rfl ?_
            refine p_iload dX2_add_75 0 rfl ?_
            obtain ⟨c12, hf⟩ := hf
            refine p_iald dX2_add_77 (nnk h0 (by decide)) c12 ?_
            refine p_iconst dX2_add_78 (by decide) ?_
            refine p_callSi dX2_add_79 M_J9_max_7cf53 (Or.inl rfl) [vi (h4 (a0 + 1) z5), vi 1] (t_J9_max_7cf53 _ _ _ _ hf) ok_J9_max_7cf53 rfl tb_852 tb_561 rfl (Nat.le_of_ble_eq_true rfl) ⟨rfl, rfl⟩ ⟨by decide, by decide⟩ ⟨by decide, by decide⟩ (fun r13 h14 hf => ?_)
            refine p_goto (tgt := 86) dX2_add_82 (by decide) ?_
            refine p_sub (ls' := [(0, vr 2 a0 0), (1, vr 0 v1 0), (2, vi v2), (3, vi v3), (4, vi v4), (5, vi z5)]) [1, 2, 3, 4, 5, 0] rfl ?_
            exact t_X2_add_86 h0 ih hX113 _ _ _ _ _ _ _ _ _ _ hf
def w_X2_add_127 (K : Int → Hh → Prop) (a0 : Int) (h : Hh) : Prop := K 0 h
set_option maxRecDepth 100000 in
set_option maxHeartbeats 4000000 in
theorem t_X2_add_127 {G : Gx} {n0 : Int} {K : Int → Hh → Prop} {a0 : Int} (h0 : 0 ≤ a0)  (h : Hh) (hf : w_X2_add_127 K  a0  h) : PW G M_X2_add rm_X2_add 0 0 [] n0 K 127 [] [] [] 0 0 h := by
  unfold w_X2_add_127 at hf
  exact p_vret dX2_add_127 rfl (by decide) (by decide) (fun _ h => absurd h List.not_mem_nil) hf
def w_X2_add_14 (K : Int → Hh → Prop) (a0 : Int) (v1 v2 v3 : Int) (h : Hh) : Prop := w_X2_add_17 K (fun u16 h15 => if u16 = 0 then (w_X2_add_127 K  a0  h15) else (hb (up h15 a0 4 (w32 ((h15 a0 4) + 1))) fun h17 => w_X2_add_127 K  a0  h17)) a0 NF v1 v2 v3 0 h
set_option maxRecDepth 100000 in
set_option maxHeartbeats 4000000 in
theorem t_X2_add_14 {G : Gx} {n0 : Int} {K : Int → Hh → Prop} {a0 : Int} (h0 : 0 ≤ a0)  (v1 v2 v3 : Int) (h : Hh) (hf : w_X2_add_14 K  a0 v1 v2 v3 h) : PW G M_X2_add rm_X2_add 0 0 [] n0 K 14 [(0, vr 2 a0 0), (1, vr 0 v1 0), (2, vi v2), (3, vi v3)] [] [] 0 0 h := by
  unfold w_X2_add_14 at hf
  refine p_iconst dX2_add_14 (by decide) ?_
  refine p_istore (ls' := [(4, vi 0), (0, vr 2 a0 0), (1, vr 0 v1 0), (2, vi v2), (3, vi v3)]) dX2_add_15 (by decide) rfl ?_
  refine p_sub (ls' := [(0, vr 2 a0 0), (1, vr 0 v1 0), (2, vi v2), (3, vi v3), (4, vi 0)]) [1, 2, 3, 4, 0] rfl ?_
  refine t_X2_add_17 h0 ?_ NF _ _ _ _ _ hf
  · intro u16 h15 hf
    refine p_iload_n dX2_add_113 rfl 1 rfl ?_
    refine p_if_eq (tgt := 127) (q := u16 = 0) dX2_add_114 (by decide) Iff.rfl (fun hc => ?_) (fun hc => ?_)
    · replace hf := Eq.mp (if_pos hc) hf
      refine p_sub (ls' := []) [] rfl ?_
      exact t_X2_add_127 h0   _ hf
    · replace hf := Eq.mp (if_neg hc) hf
      refine p_aload_n dX2_add_117 rfl 0 rfl ?_
      refine p_dup dX2_add_118 (fun _ q => by cases q) ?_
      refine p_get (c := 2) (vi (h15 a0 4)) dX2_add_119 4 tb_201 (by decide) (by decide) (Or.inl rfl) h0 rfl rfl ?_
      refine p_iconst dX2_add_122 (by decide) ?_
      refine p_iadd dX2_add_123 ?_
      refine p_puti (c := 2) dX2_add_124 4 tb_201 (by decide) (by decide) (Or.inl rfl) h0 rfl rfl (fun _ => by decide) (up h15 a0 4 (w32 ((h15 a0 4) + 1))) rfl ?_
      replace hf := hb_e hf
      generalize up h15 a0 4 (w32 ((h15 a0 4) + 1)) = h17 at hf ⊢
      refine p_sub (ls' := []) [] rfl ?_
      exact t_X2_add_127 h0   _ hf
def w_X2_add (a0 x1 x2 x3 : Int) (h : Hh) (K : Int → Hh → Prop) : Prop := if x3 = 0 then (w_X2_add_14 K  a0 x1 x2 x3 h) else (if h a0 4 < 60 then (w_X2_add_14 K  a0 x1 x2 x3 h) else (K 0 h))
set_option maxRecDepth 100000 in
set_option maxHeartbeats 4000000 in
theorem t_X2_add {G : Gx} (a0 x1 x2 x3 : Int) (h : Hh) (K : Int → Hh → Prop) (h0 : 0 ≤ a0) (hf : w_X2_add a0 x1 x2 x3 h K) : CT G M_X2_add rm_X2_add 0 0 [] [vr 2 a0 0, vr 0 x1 0, vi x2, vi x3] h K := by
  unfold w_X2_add at hf
  refine CT.of (ls0 := [(0, vr 2 a0 0), (1, vr 0 x1 0), (2, vi x2), (3, vi x3)]) (plainFor_of_name (by decide +kernel)) (by decide +kernel) (Nat.le_of_ble_eq_true rfl) rfl rfl ?_
  refine p_iload_n dX2_add_0 rfl 3 rfl ?_
  refine p_if_eq (tgt := 14) (q := x3 = 0) dX2_add_1 (by decide) Iff.rfl (fun hc => ?_) (fun hc => ?_)
  · replace hf := Eq.mp (if_pos hc) hf
    exact t_X2_add_14 h0  _ _ _ _ hf
  · replace hf := Eq.mp (if_neg hc) hf
    refine p_aload_n dX2_add_4 rfl 0 rfl ?_
    refine p_get (c := 2) (vi (h a0 4)) dX2_add_5 4 tb_201 (by decide) (by decide) (Or.inl rfl) h0 rfl rfl ?_
    refine p_bipush dX2_add_8 (by decide) (by decide) ?_
    refine p_icmp_lt (tgt := 14) (q := h a0 4 < 60) dX2_add_10 (by decide) Iff.rfl (fun hc => ?_) (fun hc => ?_)
    · replace hf := Eq.mp (if_pos hc) hf
      exact t_X2_add_14 h0  _ _ _ _ hf
    · replace hf := Eq.mp (if_neg hc) hf
      exact p_vret dX2_add_13 rfl (by decide) (by decide) (fun _ h => absurd h List.not_mem_nil) hf
theorem ok_X2_add : mOK M_X2_add 3 := ⟨tb_850, tb_8, by decide +kernel⟩
abbrev M_X2_findCandidates : MD := (yX2_findCandidates, cX2_findCandidates, 2, some .boolean)
abbrev rm_X2_findCandidates : Room := { frames := 0, cells := 0, slots := 0, locals := 0 }
def w_X2_findCandidates_57 (K : Int → Hh → Prop) (B : Int → Hh → Prop) (a0 : Int) (v1 : Int) (h : Hh) : Prop := vb (w32 (v1 + 1)) fun z3 => B z3 h
set_option maxRecDepth 100000 in
set_option maxHeartbeats 4000000 in
theorem t_X2_findCandidates_57 {G : Gx} {n0 : Int} {K : Int → Hh → Prop} {B : Int → Hh → Prop} {a0 : Int} (h0 : 0 ≤ a0) (hB : ∀ (v1 : Int) (h : Hh), B v1 h → PW G M_X2_findCandidates rm_X2_findCandidates 0 0 [] n0 K 7 [(0, vr 2 a0 0), (1, vi v1)] [] [] 0 0 h)  (v1 : Int) (h : Hh) (hf : w_X2_findCandidates_57 K B a0 v1 h) : PW G M_X2_findCandidates rm_X2_findCandidates 0 0 [] n0 K 57 [(0, vr 2 a0 0), (1, vi v1)] [] [] 0 0 h := by
  unfold w_X2_findCandidates_57 at hf
  refine p_iinc (ls' := [(1, vi (w32 (v1 + 1))), (0, vr 2 a0 0)]) dX2_findCandidates_57 1 rfl (by decide) rfl ?_
  replace hf := vb_e hf
  generalize w32 (v1 + 1) = z3 at hf ⊢
  refine p_goto (tgt := 7) dX2_findCandidates_60 (by decide) ?_
  refine p_sub (ls' := [(0, vr 2 a0 0), (1, vi z3)]) [1, 0] rfl ?_
  exact hB _ _ hf
def w_X2_findCandidates_7 (K : Int → Hh → Prop) (a0 : Int) : Nat → Int → Hh → Prop
  | 0, _, _ => False
  | n + 1, v1, h => if v1 ≥ 200 then (K 1 h) else (((0 : Int) ≤ v1 ∧ (v1 : Int) < 200) ∧ (if h (a0 + 1) v1 ≠ 1 then (w_X2_findCandidates_57 K (w_X2_findCandidates_7 K  a0 n) a0 v1 h) else (if h a0 5 < 12 then (((0 : Int) ≤ h a0 5 ∧ (h a0 5 : Int) < 12) ∧ (hb (up h (a0 + 4) (h a0 5) v1) fun h5 => hb (up h5 a0 5 (w32 ((h5 a0 5) + 1))) fun h6 => w_X2_findCandidates_57 K (w_X2_findCandidates_7 K  a0 n) a0 v1 h6)) else (K 0 h))))
set_option maxRecDepth 100000 in
set_option maxHeartbeats 4000000 in
theorem t_X2_findCandidates_7 {G : Gx} {n0 : Int} {K : Int → Hh → Prop} {a0 : Int} (h0 : 0 ≤ a0) : ∀ (n : Nat) (v1 : Int) (h : Hh), w_X2_findCandidates_7 K  a0 n v1 h → PW G M_X2_findCandidates rm_X2_findCandidates 0 0 [] n0 K 7 [(0, vr 2 a0 0), (1, vi v1)] [] [] 0 0 h := by
  intro n
  induction n with
  | zero =>
    intro v1 h hf
    rw [w_X2_findCandidates_7] at hf
    exact hf.elim
  | succ n ih =>
    intro v1 h hf
    rw [w_X2_findCandidates_7] at hf
    refine p_iload_n dX2_findCandidates_7 rfl 1 rfl ?_
    refine p_aload_n dX2_findCandidates_8 rfl 0 rfl ?_
    refine p_lay (c := 2) (tq := 100) (n := 200) dX2_findCandidates_9 0 1 tb_197 (by decide) (by decide) h0 (by decide) (by decide) (fun _ => rfl) (vr 100 (a0 + 1) 200) rfl ?_
    refine p_alen dX2_findCandidates_12 (by decide) (nnk h0 (by decide)) ?_
    refine p_icmp_ge (tgt := 63) (q := v1 ≥ 200) dX2_findCandidates_13 (by decide) Iff.rfl (fun hc => ?_) (fun hc => ?_)
    · replace hf := Eq.mp (if_pos hc) hf
      refine p_iconst dX2_findCandidates_63 (by decide) ?_
      exact p_zret dX2_findCandidates_64 rfl (by decide) (by decide) (fun _ h => absurd h List.not_mem_nil) (Or.inr rfl) hf
    · replace hf := Eq.mp (if_neg hc) hf
      refine p_aload_n dX2_findCandidates_16 rfl 0 rfl ?_
      refine p_lay (c := 2) (tq := 100) (n := 200) dX2_findCandidates_17 0 1 tb_197 (by decide) (by decide) h0 (by decide) (by decide) (fun _ => rfl) (vr 100 (a0 + 1) 200) rfl ?_
      refine p_iload_n dX2_findCandidates_20 rfl 1 rfl ?_
      obtain ⟨c2, hf⟩ := hf
      refine p_iald dX2_findCandidates_21 (nnk h0 (by decide)) c2 ?_
      refine p_iconst dX2_findCandidates_22 (by decide) ?_
      refine p_icmp_ne (tgt := 57) (q := h (a0 + 1) v1 ≠ 1) dX2_findCandidates_23 (by decide) Iff.rfl (fun hc => ?_) (fun hc => ?_)
      · replace hf := Eq.mp (if_pos hc) hf
        exact t_X2_findCandidates_57 h0 ih _ _ hf
      · replace hf := Eq.mp (if_neg hc) hf
        refine p_aload_n dX2_findCandidates_26 rfl 0 rfl ?_
        refine p_get (c := 2) (vi (h a0 5)) dX2_findCandidates_27 5 tb_202 (by decide) (by decide) (Or.inl rfl) h0 rfl rfl ?_
        refine p_bipush dX2_findCandidates_30 (by decide) (by decide) ?_
        refine p_icmp_lt (tgt := 37) (q := h a0 5 < 12) dX2_findCandidates_32 (by decide) Iff.rfl (fun hc => ?_) (fun hc => ?_)
        · replace hf := Eq.mp (if_pos hc) hf
          refine p_aload_n dX2_findCandidates_37 rfl 0 rfl ?_
          refine p_lay (c := 2) (tq := 100) (n := 12) dX2_findCandidates_38 3 4 tb_200 (by decide) (by decide) h0 (by decide) (by decide) (fun _ => rfl) (vr 100 (a0 + 4) 12) rfl ?_
          refine p_aload_n dX2_findCandidates_41 rfl 0 rfl ?_
          refine p_get (c := 2) (vi (h a0 5)) dX2_findCandidates_42 5 tb_202 (by decide) (by decide) (Or.inl rfl) h0 rfl rfl ?_
          refine p_iload_n dX2_findCandidates_45 rfl 1 rfl ?_
          obtain ⟨c4, hf⟩ := hf
          refine p_iast dX2_findCandidates_46 (nnk h0 (by decide)) c4 ?_
          replace hf := hb_e hf
          generalize up h (a0 + 4) (h a0 5) v1 = h5 at hf ⊢
          refine p_aload_n dX2_findCandidates_47 rfl 0 rfl ?_
          refine p_dup dX2_findCandidates_48 (fun _ q => by cases q) ?_
          refine p_get (c := 2) (vi (h5 a0 5)) dX2_findCandidates_49 5 tb_202 (by decide) (by decide) (Or.inl rfl) h0 rfl rfl ?_
          refine p_iconst dX2_findCandidates_52 (by decide) ?_
          refine p_iadd dX2_findCandidates_53 ?_
          refine p_puti (c := 2) dX2_findCandidates_54 5 tb_202 (by decide) (by decide) (Or.inl rfl) h0 rfl rfl (fun _ => by decide) (up h5 a0 5 (w32 ((h5 a0 5) + 1))) rfl ?_
          replace hf := hb_e hf
          generalize up h5 a0 5 (w32 ((h5 a0 5) + 1)) = h6 at hf ⊢
          exact t_X2_findCandidates_57 h0 ih _ _ hf
        · replace hf := Eq.mp (if_neg hc) hf
          refine p_iconst dX2_findCandidates_35 (by decide) ?_
          exact p_zret dX2_findCandidates_36 rfl (by decide) (by decide) (fun _ h => absurd h List.not_mem_nil) (Or.inl rfl) hf
def w_X2_findCandidates (a0 : Int) (h : Hh) (K : Int → Hh → Prop) : Prop := hb (up h a0 5 0) fun h1 => w_X2_findCandidates_7 K  a0 NF 0 h1
set_option maxRecDepth 100000 in
set_option maxHeartbeats 4000000 in
theorem t_X2_findCandidates {G : Gx} (a0 : Int) (h : Hh) (K : Int → Hh → Prop) (h0 : 0 ≤ a0) (hf : w_X2_findCandidates a0 h K) : CT G M_X2_findCandidates rm_X2_findCandidates 0 0 [] [vr 2 a0 0] h K := by
  unfold w_X2_findCandidates at hf
  refine CT.of (ls0 := [(0, vr 2 a0 0)]) (plainFor_of_name (by decide +kernel)) (by decide +kernel) (Nat.le_of_ble_eq_true rfl) rfl rfl ?_
  refine p_aload_n dX2_findCandidates_0 rfl 0 rfl ?_
  refine p_iconst dX2_findCandidates_1 (by decide) ?_
  refine p_puti (c := 2) dX2_findCandidates_2 5 tb_202 (by decide) (by decide) (Or.inl rfl) h0 rfl rfl (fun _ => by decide) (up h a0 5 0) rfl ?_
  replace hf := hb_e hf
  generalize up h a0 5 0 = h1 at hf ⊢
  refine p_iconst dX2_findCandidates_5 (by decide) ?_
  refine p_istore_n (ls' := [(1, vi 0), (0, vr 2 a0 0)]) dX2_findCandidates_6 rfl (by decide) rfl ?_
  refine p_sub (ls' := [(0, vr 2 a0 0), (1, vi 0)]) [1, 0] rfl ?_
  refine t_X2_findCandidates_7 h0  NF _ _ hf
theorem ok_X2_findCandidates : mOK M_X2_findCandidates 0 := ⟨tb_860, tb_8, by decide +kernel⟩
abbrev M_X2_bitOf : MD := (yX2_bitOf, cX2_bitOf, 3, some .int)
abbrev rm_X2_bitOf : Room := { frames := 0, cells := 0, slots := 0, locals := 0 }
def w_X2_bitOf_2 (K : Int → Hh → Prop) (a0 : Int) : Nat → Int → Int → Hh → Prop
  | 0, _, _, _ => False
  | n + 1, v1, v2, h => if v2 ≥ h a0 5 then (K 0 h) else (((0 : Int) ≤ v2 ∧ (v2 : Int) < 12) ∧ (if h (a0 + 4) v2 ≠ v1 then (vb (w32 (v2 + 1)) fun z2 => w_X2_bitOf_2 K  a0 n v1 z2 h) else (K ((i32 1 <<< (i32 (w32 ((w32 ((h a0 5) - 1)) - v2)) &&& 31)).toInt) h)))
set_option maxRecDepth 100000 in
set_option maxHeartbeats 4000000 in
theorem t_X2_bitOf_2 {G : Gx} {n0 : Int} {K : Int → Hh → Prop} {a0 : Int} (h0 : 0 ≤ a0) : ∀ (n : Nat) (v1 v2 : Int) (h : Hh), w_X2_bitOf_2 K  a0 n v1 v2 h → PW G M_X2_bitOf rm_X2_bitOf 0 0 [] n0 K 2 [(0, vr 2 a0 0), (1, vi v1), (2, vi v2)] [] [] 0 0 h := by
  intro n
  induction n with
  | zero =>
    intro v1 v2 h hf
    rw [w_X2_bitOf_2] at hf
    exact hf.elim
  | succ n ih =>
    intro v1 v2 h hf
    rw [w_X2_bitOf_2] at hf
    refine p_iload_n dX2_bitOf_2 rfl 2 rfl ?_
    refine p_aload_n dX2_bitOf_3 rfl 0 rfl ?_
    refine p_get (c := 2) (vi (h a0 5)) dX2_bitOf_4 5 tb_202 (by decide) (by decide) (Or.inl rfl) h0 rfl rfl ?_
    refine p_icmp_ge (tgt := 37) (q := v2 ≥ h a0 5) dX2_bitOf_7 (by decide) Iff.rfl (fun hc => ?_) (fun hc => ?_)
    · replace hf := Eq.mp (if_pos hc) hf
      refine p_iconst dX2_bitOf_37 (by decide) ?_
      exact p_iret dX2_bitOf_38 rfl (by decide) (by decide) (fun _ h => absurd h List.not_mem_nil) hf
    · replace hf := Eq.mp (if_neg hc) hf
      refine p_aload_n dX2_bitOf_10 rfl 0 rfl ?_
      refine p_lay (c := 2) (tq := 100) (n := 12) dX2_bitOf_11 3 4 tb_200 (by decide) (by decide) h0 (by decide) (by decide) (fun _ => rfl) (vr 100 (a0 + 4) 12) rfl ?_
      refine p_iload_n dX2_bitOf_14 rfl 2 rfl ?_
      obtain ⟨c1, hf⟩ := hf
      refine p_iald dX2_bitOf_15 (nnk h0 (by decide)) c1 ?_
      refine p_iload_n dX2_bitOf_16 rfl 1 rfl ?_
      refine p_icmp_ne (tgt := 31) (q := h (a0 + 4) v2 ≠ v1) dX2_bitOf_17 (by decide) Iff.rfl (fun hc => ?_) (fun hc => ?_)
      · replace hf := Eq.mp (if_pos hc) hf
        refine p_iinc (ls' := [(2, vi (w32 (v2 + 1))), (0, vr 2 a0 0), (1, vi v1)]) dX2_bitOf_31 2 rfl (by decide) rfl ?_
        replace hf := vb_e hf
        generalize w32 (v2 + 1) = z2 at hf ⊢
        refine p_goto (tgt := 2) dX2_bitOf_34 (by decide) ?_
        refine p_sub (ls' := [(0, vr 2 a0 0), (1, vi v1), (2, vi z2)]) [1, 2, 0] rfl ?_
        exact ih _ _ _ hf
      · replace hf := Eq.mp (if_neg hc) hf
        refine p_iconst dX2_bitOf_20 (by decide) ?_
        refine p_aload_n dX2_bitOf_21 rfl 0 rfl ?_
        refine p_get (c := 2) (vi (h a0 5)) dX2_bitOf_22 5 tb_202 (by decide) (by decide) (Or.inl rfl) h0 rfl rfl ?_
        refine p_iconst dX2_bitOf_25 (by decide) ?_
        refine p_isub dX2_bitOf_26 ?_
        refine p_iload_n dX2_bitOf_27 rfl 2 rfl ?_
        refine p_isub dX2_bitOf_28 ?_
        refine p_ishl dX2_bitOf_29 ?_
        exact p_iret dX2_bitOf_30 rfl (by decide) (by decide) (fun _ h => absurd h List.not_mem_nil) hf
def w_X2_bitOf (a0 x1 : Int) (h : Hh) (K : Int → Hh → Prop) : Prop := w_X2_bitOf_2 K  a0 NF x1 0 h
set_option maxRecDepth 100000 in
set_option maxHeartbeats 4000000 in
theorem t_X2_bitOf {G : Gx} (a0 x1 : Int) (h : Hh) (K : Int → Hh → Prop) (h0 : 0 ≤ a0) (hf : w_X2_bitOf a0 x1 h K) : CT G M_X2_bitOf rm_X2_bitOf 0 0 [] [vr 2 a0 0, vi x1] h K := by
  unfold w_X2_bitOf at hf
  refine CT.of (ls0 := [(0, vr 2 a0 0), (1, vi x1)]) (plainFor_of_name (by decide +kernel)) (by decide +kernel) (Nat.le_of_ble_eq_true rfl) rfl rfl ?_
  refine p_iconst dX2_bitOf_0 (by decide) ?_
  refine p_istore_n (ls' := [(2, vi 0), (0, vr 2 a0 0), (1, vi x1)]) dX2_bitOf_1 rfl (by decide) rfl ?_
  refine p_sub (ls' := [(0, vr 2 a0 0), (1, vi x1), (2, vi 0)]) [1, 2, 0] rfl ?_
  refine t_X2_bitOf_2 h0  NF _ _ _ hf
theorem ok_X2_bitOf : mOK M_X2_bitOf 1 := ⟨tb_868, tb_8, by decide +kernel⟩
