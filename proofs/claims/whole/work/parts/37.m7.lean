abbrev M_X10_suspects : MD := (yX10_suspects, cX10_suspects, 5, some .int)
abbrev rm_X10_suspects : Room := { frames := 6, cells := 0, slots := 0, locals := 144 }
def w_X10_suspects_23 (K : Int → Hh → Prop) (a0 : Int) (h : Hh) : Prop := K (-1) h
set_option maxRecDepth 100000 in
set_option maxHeartbeats 4000000 in
theorem t_X10_suspects_23 {G : Gx} {n0 : Int} {K : Int → Hh → Prop} {a0 : Int} (h0 : 0 ≤ a0)  (h : Hh) (hf : w_X10_suspects_23 K  a0  h) : PW G M_X10_suspects rm_X10_suspects 0 0 [] n0 K 23 [] [] [] 0 0 h := by
  unfold w_X10_suspects_23 at hf
  refine p_iconst dX10_suspects_23 (by decide) ?_
  exact p_iret dX10_suspects_24 rfl (by decide) (by decide) (fun _ q => absurd q List.not_mem_nil) hf
def w_X10_suspects (a0 x1 x2 x3 : Int) (h : Hh) (K : Int → Hh → Prop) : Prop := w_X10_chartAt a0 x1 h (fun r1 h2 => if r1 = -1 then (w_X10_suspects_23 K  a0  h2) else (w_X10_isBound x2 h2 (fun r3 h4 => if r3 = 0 then (w_X10_suspects_23 K  a0  h4) else (if x3 ≥ 0 then (w_X10_refreshDues a0 h4 (fun _ h5 => w_X10_sortReports a0 r1 x2 h5 (fun _ h6 => 0 ≤ r1 ∧ (w_X2_look (a0 + 28) (h6 r1 2) h6 (fun r8 h9 => if r8 ≠ 0 then (if x3 ≠ 0 then (if x3 ≠ 1 then (w_X2_suspectOfFirst (a0 + 28) (w32 (x3 - 2)) h9 (fun r10 h11 => K r10 h11)) else (K (w32 ((h9 (a0 + 28) 7) - 1)) h9)) else (K (h9 (a0 + 28) 6) h9)) else (K (-1) h9)))))) else (w_X10_suspects_23 K  a0  h4)))))
set_option maxRecDepth 100000 in
set_option maxHeartbeats 4000000 in
theorem t_X10_suspects {G : Gx} (a0 x1 x2 x3 : Int) (h : Hh) (K : Int → Hh → Prop) (h0 : 0 ≤ a0) (hf : w_X10_suspects a0 x1 x2 x3 h K) : CT G M_X10_suspects rm_X10_suspects 0 0 [] [vr 10 a0 0, vi x1, vi x2, vi x3] h K := by
  unfold w_X10_suspects at hf
  refine CT.of (ls0 := [(0, vr 10 a0 0), (1, vi x1), (2, vi x2), (3, vi x3)]) (plainFor_of_name (by decide +kernel)) (by decide +kernel) (Nat.le_of_ble_eq_true rfl) rfl rfl ?_
  refine p_aload_n dX10_suspects_0 rfl 0 rfl ?_
  refine p_iload_n dX10_suspects_1 rfl 1 rfl ?_
  refine p_callVr (Cn := "ThreadCharts$Chart") dX10_suspects_2 M_X10_chartAt rfl [vi x1] (t_X10_chartAt _ _ _ _ h0 hf) ok_X10_chartAt rfl (c := 10) (by decide) h0 rfl tb_575 ⟨tb_577, ts_29⟩ rfl (Nat.le_of_ble_eq_true rfl) ⟨rfl, rfl⟩ ⟨by decide, by decide⟩ ⟨by decide, by decide⟩ (fun r1 h2 hf => ?_)
  refine p_astore (ls' := [(4, vr 0 r1 0), (0, vr 10 a0 0), (1, vi x1), (2, vi x2), (3, vi x3)]) dX10_suspects_5 (by decide) rfl ?_
  refine p_aload dX10_suspects_7 0 rfl ?_
  refine p_ifnull (tgt := 23) dX10_suspects_9 (by decide) (by decide) (fun hc => ?_) (fun hc => ?_)
  · replace hf := Eq.mp (if_pos hc) hf
    refine p_sub (ls' := []) [] rfl ?_
    exact t_X10_suspects_23 h0   _ hf
  · replace hf := Eq.mp (if_neg hc) hf
    refine p_iload_n dX10_suspects_12 rfl 3 rfl ?_
    refine p_callSi dX10_suspects_13 M_X10_isBound (Or.inr rfl) [vi x2] (t_X10_isBound _ _ _ hf) ok_X10_isBound rfl tb_807 tb_808 rfl (Nat.le_of_ble_eq_true rfl) ⟨rfl, rfl⟩ ⟨by decide, by decide⟩ ⟨by decide, by decide⟩ (fun r3 h4 hf => ?_)
    refine p_if_eq (tgt := 23) (q := r3 = 0) dX10_suspects_16 (by decide) Iff.rfl (fun hc => ?_) (fun hc => ?_)
    · replace hf := Eq.mp (if_pos hc) hf
      refine p_sub (ls' := []) [] rfl ?_
      exact t_X10_suspects_23 h0   _ hf
    · replace hf := Eq.mp (if_neg hc) hf
      refine p_iload_n dX10_suspects_19 rfl 4 rfl ?_
      refine p_if_ge (tgt := 25) (q := x3 ≥ 0) dX10_suspects_20 (by decide) Iff.rfl (fun hc => ?_) (fun hc => ?_)
      · replace hf := Eq.mp (if_pos hc) hf
        refine p_aload_n dX10_suspects_25 rfl 1 rfl ?_
        refine p_callVv dX10_suspects_26 M_X10_refreshDues rfl [] (t_X10_refreshDues _ _ _ h0 hf) ok_X10_refreshDues rfl (c := 10) (by decide) h0 rfl tb_810 ⟨tb_812, ts_60⟩ rfl (Nat.le_of_ble_eq_true rfl) ⟨rfl, rfl⟩ ⟨by decide, by decide⟩ ⟨by decide, by decide⟩ (fun _ h5 hf => ?_)
        refine p_aload_n dX10_suspects_29 rfl 1 rfl ?_
        refine p_aload dX10_suspects_30 0 rfl ?_
        refine p_iload_n dX10_suspects_32 rfl 3 rfl ?_
        refine p_callVv dX10_suspects_33 M_X10_sortReports rfl [vr 0 r1 0, vi x2] (t_X10_sortReports _ _ _ _ _ h0 hf) ok_X10_sortReports rfl (c := 10) (by decide) h0 rfl tb_838 ⟨tb_840, ts_63⟩ rfl (Nat.le_of_ble_eq_true rfl) ⟨rfl, rfl⟩ ⟨by decide, by decide⟩ ⟨by decide, by decide⟩ (fun _ h6 hf => ?_)
        refine p_aload_n dX10_suspects_36 rfl 1 rfl ?_
        refine p_lay (c := 10) (tq := 2) (n := 0) dX10_suspects_37 16 28 tb_243 (by decide) (by decide) h0 (by decide) (by decide) (fun _ => rfl) (vr 2 (a0 + 28) 0) rfl ?_
        refine p_aload dX10_suspects_40 0 rfl ?_
        obtain ⟨c7, hf⟩ := hf
        refine p_getN (c := 0) (vi (h6 r1 2)) dX10_suspects_42 2 tb_497 (by decide) (by decide) (Or.inl rfl) c7 rfl rfl ?_
        refine p_callVNi dX10_suspects_45 M_X2_look (Or.inr rfl) [vi (h6 r1 2)] (t_X2_look _ _ _ _ (by omega) hf) ok_X2_look rfl (c := 2) (by decide) (by omega) rfl tb_853 ⟨tb_855, ts_66⟩ rfl (Nat.le_of_ble_eq_true rfl) ⟨rfl, rfl⟩ ⟨by decide, by decide⟩ ⟨by decide, by decide⟩ (fun r8 h9 hf => ?_)
        refine p_if_ne (tgt := 53) (q := r8 ≠ 0) dX10_suspects_48 (by decide) Iff.rfl (fun hc => ?_) (fun hc => ?_)
        · replace hf := Eq.mp (if_pos hc) hf
          refine p_iload_n dX10_suspects_53 rfl 4 rfl ?_
          refine p_if_ne (tgt := 65) (q := x3 ≠ 0) dX10_suspects_54 (by decide) Iff.rfl (fun hc => ?_) (fun hc => ?_)
          · replace hf := Eq.mp (if_pos hc) hf
            refine p_iload_n dX10_suspects_65 rfl 4 rfl ?_
            refine p_iconst dX10_suspects_66 (by decide) ?_
            refine p_icmp_ne (tgt := 80) (q := x3 ≠ 1) dX10_suspects_67 (by decide) Iff.rfl (fun hc => ?_) (fun hc => ?_)
            · replace hf := Eq.mp (if_pos hc) hf
              refine p_aload_n dX10_suspects_80 rfl 1 rfl ?_
              refine p_lay (c := 10) (tq := 2) (n := 0) dX10_suspects_81 16 28 tb_243 (by decide) (by decide) h0 (by decide) (by decide) (fun _ => rfl) (vr 2 (a0 + 28) 0) rfl ?_
              refine p_iload_n dX10_suspects_84 rfl 4 rfl ?_
              refine p_iconst dX10_suspects_85 (by decide) ?_
              refine p_isub dX10_suspects_86 ?_
              refine p_callVNi dX10_suspects_87 M_X2_suspectOfFirst (Or.inl rfl) [vi (w32 (x3 - 2))] (t_X2_suspectOfFirst _ _ _ _ (by omega) hf) ok_X2_suspectOfFirst rfl (c := 2) (by decide) (by omega) rfl tb_879 ⟨tb_881, ts_71⟩ rfl (Nat.le_of_ble_eq_true rfl) ⟨rfl, rfl⟩ ⟨by decide, by decide⟩ ⟨by decide, by decide⟩ (fun r10 h11 hf => ?_)
              exact p_iret dX10_suspects_90 rfl (by decide) (by decide) (fun _ q => absurd q List.not_mem_nil) hf
            · replace hf := Eq.mp (if_neg hc) hf
              refine p_aload_n dX10_suspects_70 rfl 1 rfl ?_
              refine p_lay (c := 10) (tq := 2) (n := 0) dX10_suspects_71 16 28 tb_243 (by decide) (by decide) h0 (by decide) (by decide) (fun _ => rfl) (vr 2 (a0 + 28) 0) rfl ?_
              refine p_getN (c := 2) (vi (h9 (a0 + 28) 7)) dX10_suspects_74 7 tb_206 (by decide) (by decide) (Or.inl rfl) (by omega) rfl rfl ?_
              refine p_iconst dX10_suspects_77 (by decide) ?_
              refine p_isub dX10_suspects_78 ?_
              exact p_iret dX10_suspects_79 rfl (by decide) (by decide) (fun _ q => absurd q List.not_mem_nil) hf
          · replace hf := Eq.mp (if_neg hc) hf
            refine p_aload_n dX10_suspects_57 rfl 1 rfl ?_
            refine p_lay (c := 10) (tq := 2) (n := 0) dX10_suspects_58 16 28 tb_243 (by decide) (by decide) h0 (by decide) (by decide) (fun _ => rfl) (vr 2 (a0 + 28) 0) rfl ?_
            refine p_getN (c := 2) (vi (h9 (a0 + 28) 6)) dX10_suspects_61 6 tb_204 (by decide) (by decide) (Or.inl rfl) (by omega) rfl rfl ?_
            exact p_iret dX10_suspects_64 rfl (by decide) (by decide) (fun _ q => absurd q List.not_mem_nil) hf
        · replace hf := Eq.mp (if_neg hc) hf
          refine p_iconst dX10_suspects_51 (by decide) ?_
          exact p_iret dX10_suspects_52 rfl (by decide) (by decide) (fun _ q => absurd q List.not_mem_nil) hf
      · replace hf := Eq.mp (if_neg hc) hf
        refine p_sub (ls' := []) [] rfl ?_
        exact t_X10_suspects_23 h0   _ hf
theorem ok_X10_suspects : mOK M_X10_suspects 3 := ⟨tb_837, tb_1, by decide +kernel⟩
abbrev M_X10_count : MD := (yX10_count, cX10_count, 2, some .int)
abbrev rm_X10_count : Room := { frames := 0, cells := 0, slots := 0, locals := 0 }
def w_X10_count_110 (K : Int → Hh → Prop) (a0 : Int) (s0 : Int) (h : Hh) : Prop := K s0 h
set_option maxRecDepth 100000 in
set_option maxHeartbeats 4000000 in
theorem t_X10_count_110 {G : Gx} {n0 : Int} {K : Int → Hh → Prop} {a0 : Int} (h0 : 0 ≤ a0)  (s0 : Int) (h : Hh) (hf : w_X10_count_110 K  a0 s0 h) : PW G M_X10_count rm_X10_count 0 0 [] n0 K 110 [] [vi s0] [] 0 0 h := by
  unfold w_X10_count_110 at hf
  exact p_iret dX10_count_110 rfl (by decide) (by decide) (fun _ q => absurd q List.not_mem_nil) hf
def w_X10_count (a0 x1 : Int) (h : Hh) (K : Int → Hh → Prop) : Prop := if x1 = 0 then (K (h a0 8) h) else (if x1 = 1 then (K (h a0 3) h) else (if x1 = 2 then (K (h a0 5) h) else (if x1 = 3 then (K (h (a0 + 9) 5) h) else (if x1 = 4 then (K (h (a0 + 15) 7) h) else (if x1 = 5 then (K (h a0 7) h) else (if x1 = 6 then (K (h (a0 + 1) 1) h) else (if x1 = 7 then (if h a0 9 ≠ -1 then (0 ≤ h a0 9 ∧ (w_X10_count_110 K  a0 (h (h a0 9) 1) h)) else (w_X10_count_110 K  a0 (-1) h)) else (K (-1) h))))))))
set_option maxRecDepth 100000 in
set_option maxHeartbeats 4000000 in
theorem t_X10_count {G : Gx} (a0 x1 : Int) (h : Hh) (K : Int → Hh → Prop) (h0 : 0 ≤ a0) (hf : w_X10_count a0 x1 h K) : CT G M_X10_count rm_X10_count 0 0 [] [vr 10 a0 0, vi x1] h K := by
  unfold w_X10_count at hf
  refine CT.of (ls0 := [(0, vr 10 a0 0), (1, vi x1)]) (plainFor_of_name (by decide +kernel)) (by decide +kernel) (Nat.le_of_ble_eq_true rfl) rfl rfl ?_
  refine p_iload_n dX10_count_0 rfl 1 rfl ?_
  by_cases hc : x1 = 0
  · replace hf := Eq.mp (if_pos hc) hf
    refine p_tsIn (tgt := 48) (off := 47) dX10_count_1 (by omega) (by omega) (by rw [hc]; rfl) (by decide) ?_
    refine p_aload_n dX10_count_48 rfl 0 rfl ?_
    refine p_get (c := 10) (vi (h a0 8)) dX10_count_49 8 tb_235 (by decide) (by decide) (Or.inl rfl) h0 rfl rfl ?_
    exact p_iret dX10_count_52 rfl (by decide) (by decide) (fun _ q => absurd q List.not_mem_nil) hf
  replace hf := Eq.mp (if_neg hc) hf
  have hc1_0 := hc
  clear hc
  by_cases hc : x1 = 1
  · replace hf := Eq.mp (if_pos hc) hf
    refine p_tsIn (tgt := 53) (off := 52) dX10_count_1 (by omega) (by omega) (by rw [hc]; rfl) (by decide) ?_
    refine p_aload_n dX10_count_53 rfl 0 rfl ?_
    refine p_get (c := 10) (vi (h a0 3)) dX10_count_54 3 tb_230 (by decide) (by decide) (Or.inl rfl) h0 rfl rfl ?_
    exact p_iret dX10_count_57 rfl (by decide) (by decide) (fun _ q => absurd q List.not_mem_nil) hf
  replace hf := Eq.mp (if_neg hc) hf
  have hc1_1 := hc
  clear hc
  by_cases hc : x1 = 2
  · replace hf := Eq.mp (if_pos hc) hf
    refine p_tsIn (tgt := 58) (off := 57) dX10_count_1 (by omega) (by omega) (by rw [hc]; rfl) (by decide) ?_
    refine p_aload_n dX10_count_58 rfl 0 rfl ?_
    refine p_get (c := 10) (vi (h a0 5)) dX10_count_59 5 tb_232 (by decide) (by decide) (Or.inl rfl) h0 rfl rfl ?_
    exact p_iret dX10_count_62 rfl (by decide) (by decide) (fun _ q => absurd q List.not_mem_nil) hf
  replace hf := Eq.mp (if_neg hc) hf
  have hc1_2 := hc
  clear hc
  by_cases hc : x1 = 3
  · replace hf := Eq.mp (if_pos hc) hf
    refine p_tsIn (tgt := 63) (off := 62) dX10_count_1 (by omega) (by omega) (by rw [hc]; rfl) (by decide) ?_
    refine p_aload_n dX10_count_63 rfl 0 rfl ?_
    refine p_lay (c := 10) (tq := 1) (n := 0) dX10_count_64 11 9 tb_238 (by decide) (by decide) h0 (by decide) (by decide) (fun _ => rfl) (vr 1 (a0 + 9) 0) rfl ?_
    refine p_getN (c := 1) (vi (h (a0 + 9) 5)) dX10_count_67 5 tb_92 (by decide) (by decide) (Or.inl rfl) (by omega) rfl rfl ?_
    exact p_iret dX10_count_70 rfl (by decide) (by decide) (fun _ q => absurd q List.not_mem_nil) hf
  replace hf := Eq.mp (if_neg hc) hf
  have hc1_3 := hc
  clear hc
  by_cases hc : x1 = 4
  · replace hf := Eq.mp (if_pos hc) hf
    refine p_tsIn (tgt := 71) (off := 70) dX10_count_1 (by omega) (by omega) (by rw [hc]; rfl) (by decide) ?_
    refine p_aload_n dX10_count_71 rfl 0 rfl ?_
    refine p_lay (c := 10) (tq := 6) (n := 0) dX10_count_72 12 15 tb_239 (by decide) (by decide) h0 (by decide) (by decide) (fun _ => rfl) (vr 6 (a0 + 15) 0) rfl ?_
    refine p_getN (c := 6) (vi (h (a0 + 15) 7)) dX10_count_75 7 tb_124 (by decide) (by decide) (Or.inl rfl) (by omega) rfl rfl ?_
    exact p_iret dX10_count_78 rfl (by decide) (by decide) (fun _ q => absurd q List.not_mem_nil) hf
  replace hf := Eq.mp (if_neg hc) hf
  have hc1_4 := hc
  clear hc
  by_cases hc : x1 = 5
  · replace hf := Eq.mp (if_pos hc) hf
    refine p_tsIn (tgt := 79) (off := 78) dX10_count_1 (by omega) (by omega) (by rw [hc]; rfl) (by decide) ?_
    refine p_aload_n dX10_count_79 rfl 0 rfl ?_
    refine p_get (c := 10) (vi (h a0 7)) dX10_count_80 7 tb_234 (by decide) (by decide) (Or.inl rfl) h0 rfl rfl ?_
    exact p_iret dX10_count_83 rfl (by decide) (by decide) (fun _ q => absurd q List.not_mem_nil) hf
  replace hf := Eq.mp (if_neg hc) hf
  have hc1_5 := hc
  clear hc
  by_cases hc : x1 = 6
  · replace hf := Eq.mp (if_pos hc) hf
    refine p_tsIn (tgt := 84) (off := 83) dX10_count_1 (by omega) (by omega) (by rw [hc]; rfl) (by decide) ?_
    refine p_aload_n dX10_count_84 rfl 0 rfl ?_
    refine p_lay (c := 10) (tq := 8) (n := 0) dX10_count_85 0 1 tb_227 (by decide) (by decide) h0 (by decide) (by decide) (fun _ => rfl) (vr 8 (a0 + 1) 0) rfl ?_
    refine p_getN (c := 8) (vi (h (a0 + 1) 1)) dX10_count_88 1 tb_31 (by decide) (by decide) (Or.inl rfl) (by omega) rfl rfl ?_
    exact p_iret dX10_count_91 rfl (by decide) (by decide) (fun _ q => absurd q List.not_mem_nil) hf
  replace hf := Eq.mp (if_neg hc) hf
  have hc1_6 := hc
  clear hc
  by_cases hc : x1 = 7
  · replace hf := Eq.mp (if_pos hc) hf
    refine p_tsIn (tgt := 92) (off := 91) dX10_count_1 (by omega) (by omega) (by rw [hc]; rfl) (by decide) ?_
    refine p_aload_n dX10_count_92 rfl 0 rfl ?_
    refine p_get (c := 10) (vr 0 (h a0 9) 0) dX10_count_93 9 tb_236 (by decide) (by decide) (Or.inl rfl) h0 rfl rfl ?_
    refine p_ifnonnull (tgt := 103) dX10_count_96 (by decide) (by decide) (fun hc => ?_) (fun hc => ?_)
    · replace hf := Eq.mp (if_pos hc) hf
      refine p_aload_n dX10_count_103 rfl 0 rfl ?_
      refine p_get (c := 10) (vr 0 (h a0 9) 0) dX10_count_104 9 tb_236 (by decide) (by decide) (Or.inl rfl) h0 rfl rfl ?_
      obtain ⟨c1, hf⟩ := hf
      refine p_getN (c := 0) (vi (h (h a0 9) 1)) dX10_count_107 1 tb_493 (by decide) (by decide) (Or.inl rfl) c1 rfl rfl ?_
      refine p_sub (ls' := []) [] rfl ?_
      exact t_X10_count_110 h0  _ _ hf
    · replace hf := Eq.mp (if_neg hc) hf
      refine p_iconst dX10_count_99 (by decide) ?_
      refine p_goto (tgt := 110) dX10_count_100 (by decide) ?_
      refine p_sub (ls' := []) [] rfl ?_
      exact t_X10_count_110 h0  _ _ hf
  replace hf := Eq.mp (if_neg hc) hf
  have hc1_7 := hc
  clear hc
  refine p_tsOut (tgt := 111) dX10_count_1 (by omega) (by decide) ?_
  refine p_iconst dX10_count_111 (by decide) ?_
  exact p_iret dX10_count_112 rfl (by decide) (by decide) (fun _ q => absurd q List.not_mem_nil) hf
theorem ok_X10_count : mOK M_X10_count 1 := ⟨tb_886, tb_1, by decide +kernel⟩
abbrev M_X11_in : MD := (yX11_in, cX11_in, 6, some .boolean)
abbrev rm_X11_in : Room := { frames := 0, cells := 0, slots := 0, locals := 0 }
def w_X11_in_18 (K : Int → Hh → Prop) (s0 : Int) (h : Hh) : Prop := (s0 = 0 ∨ s0 = 1) ∧ (K s0 h)
set_option maxRecDepth 100000 in
set_option maxHeartbeats 4000000 in
theorem t_X11_in_18 {G : Gx} {n0 : Int} {K : Int → Hh → Prop}  (s0 : Int) (h : Hh) (hf : w_X11_in_18 K   s0 h) : PW G M_X11_in rm_X11_in 0 0 [] n0 K 18 [] [vi s0] [] 0 0 h := by
  unfold w_X11_in_18 at hf
  obtain ⟨c1, hf⟩ := hf
  exact p_zret dX11_in_18 rfl (by decide) (by decide) (fun _ q => absurd q List.not_mem_nil) c1 hf
def w_X11_in_17 (K : Int → Hh → Prop) (h : Hh) : Prop := w_X11_in_18 K   0 h
set_option maxRecDepth 100000 in
set_option maxHeartbeats 4000000 in
theorem t_X11_in_17 {G : Gx} {n0 : Int} {K : Int → Hh → Prop}  (h : Hh) (hf : w_X11_in_17 K    h) : PW G M_X11_in rm_X11_in 0 0 [] n0 K 17 [] [] [] 0 0 h := by
  unfold w_X11_in_17 at hf
  refine p_iconst dX11_in_17 (by decide) ?_
  exact t_X11_in_18  _ _ hf
def w_X11_in (x0 x2 x4 : Int) (h : Hh) (K : Int → Hh → Prop) : Prop := if x0 < x2 then (w_X11_in_17 K    h) else (if x0 > x4 then (w_X11_in_17 K    h) else (w_X11_in_18 K   1 h))
set_option maxRecDepth 100000 in
set_option maxHeartbeats 4000000 in
theorem t_X11_in {G : Gx} (x0 x2 x4 : Int) (h : Hh) (K : Int → Hh → Prop) (hf : w_X11_in x0 x2 x4 h K) : CT G M_X11_in rm_X11_in 0 0 [] [vl x0, vl x2, vl x4] h K := by
  unfold w_X11_in at hf
  refine CT.of (ls0 := [(0, vl x0), (2, vl x2), (4, vl x4)]) (plainFor_of_name (by decide +kernel)) (by decide +kernel) (Nat.le_of_ble_eq_true rfl) rfl rfl ?_
  refine p_lload_n dX11_in_0 rfl 0 rfl ?_
  refine p_lload_n dX11_in_1 rfl 1 rfl ?_
  refine p_lcmp (z := (if x0 < x2 then (-1) else if x0 = x2 then 0 else 1)) dX11_in_2 rfl ?_
  refine p_if_lt (tgt := 17) (q := x0 < x2) dX11_in_3 (by decide) (lc_lt x0 x2) (fun hc => ?_) (fun hc => ?_)
  · replace hf := Eq.mp (if_pos hc) hf
    refine p_sub (ls' := []) [] rfl ?_
    exact t_X11_in_17   _ hf
  · replace hf := Eq.mp (if_neg hc) hf
    refine p_lload_n dX11_in_6 rfl 0 rfl ?_
    refine p_lload dX11_in_7 2 rfl ?_
    refine p_lcmp (z := (if x0 < x4 then (-1) else if x0 = x4 then 0 else 1)) dX11_in_9 rfl ?_
    refine p_if_gt (tgt := 17) (q := x0 > x4) dX11_in_10 (by decide) (lc_gt x0 x4) (fun hc => ?_) (fun hc => ?_)
    · replace hf := Eq.mp (if_pos hc) hf
      refine p_sub (ls' := []) [] rfl ?_
      exact t_X11_in_17   _ hf
    · replace hf := Eq.mp (if_neg hc) hf
      refine p_iconst dX11_in_13 (by decide) ?_
      refine p_goto (tgt := 18) dX11_in_14 (by decide) ?_
      refine p_sub (ls' := []) [] rfl ?_
      exact t_X11_in_18  _ _ hf
theorem ok_X11_in : mOK M_X11_in 3 := ⟨tb_1081, tb_9, by decide +kernel⟩
abbrev M_X11_floor : MD := (yX11_floor, cX11_floor, 4, some .long)
abbrev rm_X11_floor : Room := { frames := 0, cells := 0, slots := 0, locals := 0 }
def w_X11_floor_21 (K : Int → Hh → Prop) (s0 : Int) (h : Hh) : Prop := K s0 h
set_option maxRecDepth 100000 in
set_option maxHeartbeats 4000000 in
theorem t_X11_floor_21 {G : Gx} {n0 : Int} {K : Int → Hh → Prop}  (s0 : Int) (h : Hh) (hf : w_X11_floor_21 K   s0 h) : PW G M_X11_floor rm_X11_floor 0 0 [] n0 K 21 [] [vl s0] [] 0 0 h := by
  unfold w_X11_floor_21 at hf
  exact p_lret dX11_floor_21 rfl (by decide) (by decide) (fun _ q => absurd q List.not_mem_nil) hf
def w_X11_floor (x0 x2 : Int) (h : Hh) (K : Int → Hh → Prop) : Prop := if x0 < 0 then ((x2 ≠ 0) ∧ (w_X11_floor_21 K   (w64 (-(w64 (Int.tdiv (w64 ((w64 ((w64 (-x0)) + x2)) - 1)) x2)))) h)) else ((x2 ≠ 0) ∧ (w_X11_floor_21 K   (w64 (Int.tdiv x0 x2)) h))
set_option maxRecDepth 100000 in
set_option maxHeartbeats 4000000 in
theorem t_X11_floor {G : Gx} (x0 x2 : Int) (h : Hh) (K : Int → Hh → Prop) (hf : w_X11_floor x0 x2 h K) : CT G M_X11_floor rm_X11_floor 0 0 [] [vl x0, vl x2] h K := by
  unfold w_X11_floor at hf
  refine CT.of (ls0 := [(0, vl x0), (2, vl x2)]) (plainFor_of_name (by decide +kernel)) (by decide +kernel) (Nat.le_of_ble_eq_true rfl) rfl rfl ?_
  refine p_lload_n dX11_floor_0 rfl 0 rfl ?_
  refine p_lconst (z := 0) dX11_floor_1 rfl ?_
  refine p_lcmp (z := (if x0 < 0 then (-1) else if x0 = 0 then 0 else 1)) dX11_floor_2 rfl ?_
  refine p_if_lt (tgt := 12) (q := x0 < 0) dX11_floor_3 (by decide) (lc_lt x0 0) (fun hc => ?_) (fun hc => ?_)
  · replace hf := Eq.mp (if_pos hc) hf
    refine p_lload_n dX11_floor_12 rfl 0 rfl ?_
    refine p_lneg dX11_floor_13 ?_
    refine p_lload_n dX11_floor_14 rfl 1 rfl ?_
    refine p_ladd dX11_floor_15 ?_
    refine p_lconst (z := 1) dX11_floor_16 rfl ?_
    refine p_lsub dX11_floor_17 ?_
    refine p_lload_n dX11_floor_18 rfl 1 rfl ?_
    obtain ⟨c1, hf⟩ := hf
    refine p_ldiv dX11_floor_19 c1 ?_
    refine p_lneg dX11_floor_20 ?_
    refine p_sub (ls' := []) [] rfl ?_
    exact t_X11_floor_21  _ _ hf
  · replace hf := Eq.mp (if_neg hc) hf
    refine p_lload_n dX11_floor_6 rfl 0 rfl ?_
    refine p_lload_n dX11_floor_7 rfl 1 rfl ?_
    obtain ⟨c2, hf⟩ := hf
    refine p_ldiv dX11_floor_8 c2 ?_
    refine p_goto (tgt := 21) dX11_floor_9 (by decide) ?_
    refine p_sub (ls' := []) [] rfl ?_
    exact t_X11_floor_21  _ _ hf
theorem ok_X11_floor : mOK M_X11_floor 2 := ⟨tb_1143, tb_9, by decide +kernel⟩
abbrev M_X11_nearest : MD := (yX11_nearest, cX11_nearest, 4, some .long)
abbrev rm_X11_nearest : Room := { frames := 1, cells := 0, slots := 0, locals := 23 }
def w_X11_nearest (x0 x2 : Int) (h : Hh) (K : Int → Hh → Prop) : Prop := w_X11_floor (w64 ((w64 (2 * x0)) + x2)) (w64 (2 * x2)) h (fun r1 h2 => K r1 h2)
set_option maxRecDepth 100000 in
set_option maxHeartbeats 4000000 in
theorem t_X11_nearest {G : Gx} (x0 x2 : Int) (h : Hh) (K : Int → Hh → Prop) (hf : w_X11_nearest x0 x2 h K) : CT G M_X11_nearest rm_X11_nearest 0 0 [] [vl x0, vl x2] h K := by
  unfold w_X11_nearest at hf
  refine CT.of (ls0 := [(0, vl x0), (2, vl x2)]) (plainFor_of_name (by decide +kernel)) (by decide +kernel) (Nat.le_of_ble_eq_true rfl) rfl rfl ?_
  refine p_ldc2 (z := 2) dX11_nearest_0 tb_1135 (by decide) ?_
  refine p_lload_n dX11_nearest_3 rfl 0 rfl ?_
  refine p_lmul dX11_nearest_4 ?_
  refine p_lload_n dX11_nearest_5 rfl 1 rfl ?_
  refine p_ladd dX11_nearest_6 ?_
  refine p_ldc2 (z := 2) dX11_nearest_7 tb_1135 (by decide) ?_
  refine p_lload_n dX11_nearest_10 rfl 1 rfl ?_
  refine p_lmul dX11_nearest_11 ?_
  refine p_callSl dX11_nearest_12 M_X11_floor rfl [vl (w64 ((w64 (2 * x0)) + x2)), vl (w64 (2 * x2))] (t_X11_floor _ _ _ _ hf) ok_X11_floor rfl tb_1141 tb_1142 rfl (Nat.le_of_ble_eq_true rfl) ⟨rfl, rfl⟩ ⟨by decide, by decide⟩ ⟨by decide, by decide⟩ (fun r1 h2 hf => ?_)
  exact p_lret dX11_nearest_15 rfl (by decide) (by decide) (fun _ q => absurd q List.not_mem_nil) hf
theorem ok_X11_nearest : mOK M_X11_nearest 2 := ⟨tb_1140, tb_9, by decide +kernel⟩
abbrev M_X11_feed : MD := (yX11_feed, cX11_feed, 8, some .int)
abbrev rm_X11_feed : Room := { frames := 0, cells := 0, slots := 0, locals := 0 }
def w_X11_feed_70 (K : Int → Hh → Prop) (B : Int → Int → Int → Int → Int → Int → Hh → Prop) (X111 : Hh → Prop) (a0 : Int) (v1 v2 v3 v4 v5 v6 s0 : Int) (h : Hh) : Prop := ((0 : Int) ≤ h a0 1 ∧ h a0 1 < 120) ∧ (hb (up h (a0 + 1) (h a0 1) ((i32 ((i32 s0 >>> (i32 (w32 (24 - (w32 (8 * (Int.tmod v6 4))))) &&& 31)).toInt)).toInt8.toInt32.toInt)) fun h2 => hb (up h2 a0 1 (w32 ((h2 a0 1) + 1))) fun h3 => vb (w32 (v6 + 1)) fun z4 => B v1 v2 v3 v4 v5 z4 h3)
set_option maxRecDepth 100000 in
set_option maxHeartbeats 4000000 in
theorem t_X11_feed_70 {G : Gx} {n0 : Int} {K : Int → Hh → Prop} {B : Int → Int → Int → Int → Int → Int → Hh → Prop} {X111 : Hh → Prop} {a0 : Int} (h0 : 0 ≤ a0) (hB : ∀ (v1 v2 v3 v4 v5 v6 : Int) (h : Hh), B v1 v2 v3 v4 v5 v6 h → PW G M_X11_feed rm_X11_feed 0 0 [] n0 K 17 [(0, vr 11 a0 0), (1, vi v1), (2, vi v2), (3, vi v3), (4, vi v4), (5, vi v5), (6, vi v6)] [] [] 0 0 h) (hX111 : ∀ (h : Hh), X111  h → PW G M_X11_feed rm_X11_feed 0 0 [] n0 K 111 [(0, vr 11 a0 0)] [] [] 0 0 h)  (v1 v2 v3 v4 v5 v6 s0 : Int) (h : Hh) (hf : w_X11_feed_70 K B X111 a0 v1 v2 v3 v4 v5 v6 s0 h) : PW G M_X11_feed rm_X11_feed 0 0 [] n0 K 70 [(0, vr 11 a0 0), (1, vi v1), (2, vi v2), (3, vi v3), (4, vi v4), (5, vi v5), (6, vi v6)] [vi s0] [] 0 0 h := by
  unfold w_X11_feed_70 at hf
  refine p_istore (ls' := [(7, vi s0), (0, vr 11 a0 0), (1, vi v1), (2, vi v2), (3, vi v3), (4, vi v4), (5, vi v5), (6, vi v6)]) dX11_feed_70 (by decide) rfl ?_
  refine p_aload_n dX11_feed_72 rfl 1 rfl ?_
  refine p_lay (c := 11) (tq := 102) (n := 120) dX11_feed_73 0 1 tb_893 (by decide) (by decide) h0 (by decide) (by decide) (fun _ => rfl) (vr 102 (a0 + 1) 120) rfl ?_
  refine p_aload_n dX11_feed_76 rfl 1 rfl ?_
  refine p_get (c := 11) (vi (h a0 1)) dX11_feed_77 1 tb_894 (by decide) (by decide) (Or.inl rfl) h0 rfl rfl ?_
  refine p_iload dX11_feed_80 0 rfl ?_
  refine p_bipush dX11_feed_82 (by decide) (by decide) ?_
  refine p_bipush dX11_feed_84 (by decide) (by decide) ?_
  refine p_iload dX11_feed_86 7 rfl ?_
  refine p_iconst dX11_feed_88 (by decide) ?_
  refine p_irem dX11_feed_89 (by decide) ?_
  refine p_imul dX11_feed_90 ?_
  refine p_isub dX11_feed_91 ?_
  refine p_ishr dX11_feed_92 ?_
  refine p_i2b dX11_feed_93 ?_
  obtain ⟨c1, hf⟩ := hf
  refine p_bast dX11_feed_94 (by omega) c1 (byte_r _) (byte_t _) ?_
  replace hf := hb_e hf
  generalize up h (a0 + 1) (h a0 1) ((i32 ((i32 s0 >>> (i32 (w32 (24 - (w32 (8 * (Int.tmod v6 4))))) &&& 31)).toInt)).toInt8.toInt32.toInt) = h2 at hf ⊢
  refine p_aload_n dX11_feed_95 rfl 1 rfl ?_
  refine p_dup dX11_feed_96 (fun _ q => by cases q) ?_
  refine p_get (c := 11) (vi (h2 a0 1)) dX11_feed_97 1 tb_894 (by decide) (by decide) (Or.inl rfl) h0 rfl rfl ?_
  refine p_iconst dX11_feed_100 (by decide) ?_
  refine p_iadd dX11_feed_101 ?_
  refine p_puti (c := 11) dX11_feed_102 1 tb_894 (by decide) (by decide) (Or.inl rfl) h0 rfl rfl (fun _ => by decide) (up h2 a0 1 (w32 ((h2 a0 1) + 1))) rfl ?_
  replace hf := hb_e hf
  generalize up h2 a0 1 (w32 ((h2 a0 1) + 1)) = h3 at hf ⊢
  refine p_iinc (ls' := [(6, vi (w32 (v6 + 1))), (7, vi s0), (0, vr 11 a0 0), (1, vi v1), (2, vi v2), (3, vi v3), (4, vi v4), (5, vi v5)]) dX11_feed_105 7 rfl (by decide) rfl ?_
  replace hf := vb_e hf
  generalize w32 (v6 + 1) = z4 at hf ⊢
  refine p_goto (tgt := 17) dX11_feed_108 (by decide) ?_
  refine p_sub (ls' := [(0, vr 11 a0 0), (1, vi v1), (2, vi v2), (3, vi v3), (4, vi v4), (5, vi v5), (6, vi z4)]) [2, 3, 4, 5, 6, 7, 0] rfl ?_
  exact hB _ _ _ _ _ _ _ hf
def w_X11_feed_17 (K : Int → Hh → Prop) (X111 : Hh → Prop) (a0 : Int) : Nat → Int → Int → Int → Int → Int → Int → Hh → Prop
  | 0, _, _, _, _, _, _, _ => False
  | n + 1, v1, v2, v3, v4, v5, v6, h => if v6 ≥ 20 then (X111  h) else (if v6 ≥ 4 then (if v6 ≥ 8 then (if v6 ≥ 12 then (if v6 ≥ 16 then (w_X11_feed_70 K (w_X11_feed_17 K X111 a0 n) X111 a0 v1 v2 v3 v4 v5 v6 v5 h) else (w_X11_feed_70 K (w_X11_feed_17 K X111 a0 n) X111 a0 v1 v2 v3 v4 v5 v6 v4 h)) else (w_X11_feed_70 K (w_X11_feed_17 K X111 a0 n) X111 a0 v1 v2 v3 v4 v5 v6 v3 h)) else (w_X11_feed_70 K (w_X11_feed_17 K X111 a0 n) X111 a0 v1 v2 v3 v4 v5 v6 v2 h)) else (w_X11_feed_70 K (w_X11_feed_17 K X111 a0 n) X111 a0 v1 v2 v3 v4 v5 v6 v1 h))
set_option maxRecDepth 100000 in
set_option maxHeartbeats 4000000 in
theorem t_X11_feed_17 {G : Gx} {n0 : Int} {K : Int → Hh → Prop} {X111 : Hh → Prop} {a0 : Int} (h0 : 0 ≤ a0) (hX111 : ∀ (h : Hh), X111  h → PW G M_X11_feed rm_X11_feed 0 0 [] n0 K 111 [(0, vr 11 a0 0)] [] [] 0 0 h) : ∀ (n : Nat) (v1 v2 v3 v4 v5 v6 : Int) (h : Hh), w_X11_feed_17 K X111 a0 n v1 v2 v3 v4 v5 v6 h → PW G M_X11_feed rm_X11_feed 0 0 [] n0 K 17 [(0, vr 11 a0 0), (1, vi v1), (2, vi v2), (3, vi v3), (4, vi v4), (5, vi v5), (6, vi v6)] [] [] 0 0 h := by
  intro n
  induction n with
  | zero =>
    intro v1 v2 v3 v4 v5 v6 h hf
    rw [w_X11_feed_17] at hf
    exact hf.elim
  | succ n ih =>
    intro v1 v2 v3 v4 v5 v6 h hf
    rw [w_X11_feed_17] at hf
    refine p_iload dX11_feed_17 6 rfl ?_
    refine p_bipush dX11_feed_19 (by decide) (by decide) ?_
    refine p_icmp_ge (tgt := 111) (q := v6 ≥ 20) dX11_feed_21 (by decide) Iff.rfl (fun hc => ?_) (fun hc => ?_)
    · replace hf := Eq.mp (if_pos hc) hf
      refine p_sub (ls' := [(0, vr 11 a0 0)]) [0] rfl ?_
      exact hX111  _ hf
    · replace hf := Eq.mp (if_neg hc) hf
      refine p_iload dX11_feed_24 6 rfl ?_
      refine p_iconst dX11_feed_26 (by decide) ?_
      refine p_icmp_ge (tgt := 34) (q := v6 ≥ 4) dX11_feed_27 (by decide) Iff.rfl (fun hc => ?_) (fun hc => ?_)
      · replace hf := Eq.mp (if_pos hc) hf
        refine p_iload dX11_feed_34 6 rfl ?_
        refine p_bipush dX11_feed_36 (by decide) (by decide) ?_
        refine p_icmp_ge (tgt := 45) (q := v6 ≥ 8) dX11_feed_38 (by decide) Iff.rfl (fun hc => ?_) (fun hc => ?_)
        · replace hf := Eq.mp (if_pos hc) hf
          refine p_iload dX11_feed_45 6 rfl ?_
          refine p_bipush dX11_feed_47 (by decide) (by decide) ?_
          refine p_icmp_ge (tgt := 56) (q := v6 ≥ 12) dX11_feed_49 (by decide) Iff.rfl (fun hc => ?_) (fun hc => ?_)
          · replace hf := Eq.mp (if_pos hc) hf
            refine p_iload dX11_feed_56 6 rfl ?_
            refine p_bipush dX11_feed_58 (by decide) (by decide) ?_
            refine p_icmp_ge (tgt := 68) (q := v6 ≥ 16) dX11_feed_60 (by decide) Iff.rfl (fun hc => ?_) (fun hc => ?_)
            · replace hf := Eq.mp (if_pos hc) hf
              refine p_iload dX11_feed_68 5 rfl ?_
              exact t_X11_feed_70 h0 ih hX111 _ _ _ _ _ _ _ _ hf
            · replace hf := Eq.mp (if_neg hc) hf
              refine p_iload dX11_feed_63 4 rfl ?_
              refine p_goto (tgt := 70) dX11_feed_65 (by decide) ?_
              exact t_X11_feed_70 h0 ih hX111 _ _ _ _ _ _ _ _ hf
          · replace hf := Eq.mp (if_neg hc) hf
            refine p_iload_n dX11_feed_52 rfl 3 rfl ?_
            refine p_goto (tgt := 70) dX11_feed_53 (by decide) ?_
            exact t_X11_feed_70 h0 ih hX111 _ _ _ _ _ _ _ _ hf
        · replace hf := Eq.mp (if_neg hc) hf
          refine p_iload_n dX11_feed_41 rfl 2 rfl ?_
          refine p_goto (tgt := 70) dX11_feed_42 (by decide) ?_
          exact t_X11_feed_70 h0 ih hX111 _ _ _ _ _ _ _ _ hf
      · replace hf := Eq.mp (if_neg hc) hf
        refine p_iload_n dX11_feed_30 rfl 1 rfl ?_
        refine p_goto (tgt := 70) dX11_feed_31 (by decide) ?_
        exact t_X11_feed_70 h0 ih hX111 _ _ _ _ _ _ _ _ hf
def w_X11_feed (a0 x1 x2 x3 x4 x5 : Int) (h : Hh) (K : Int → Hh → Prop) : Prop := if w32 ((h a0 1) + 20) ≤ 120 then (w_X11_feed_17 K (fun h5 => K (h5 a0 1) h5) a0 NF x1 x2 x3 x4 x5 0 h) else (K (-1) h)
set_option maxRecDepth 100000 in
set_option maxHeartbeats 4000000 in
theorem t_X11_feed {G : Gx} (a0 x1 x2 x3 x4 x5 : Int) (h : Hh) (K : Int → Hh → Prop) (h0 : 0 ≤ a0) (hf : w_X11_feed a0 x1 x2 x3 x4 x5 h K) : CT G M_X11_feed rm_X11_feed 0 0 [] [vr 11 a0 0, vi x1, vi x2, vi x3, vi x4, vi x5] h K := by
  unfold w_X11_feed at hf
  refine CT.of (ls0 := [(0, vr 11 a0 0), (1, vi x1), (2, vi x2), (3, vi x3), (4, vi x4), (5, vi x5)]) (plainFor_of_name (by decide +kernel)) (by decide +kernel) (Nat.le_of_ble_eq_true rfl) rfl rfl ?_
  refine p_aload_n dX11_feed_0 rfl 0 rfl ?_
  refine p_get (c := 11) (vi (h a0 1)) dX11_feed_1 1 tb_894 (by decide) (by decide) (Or.inl rfl) h0 rfl rfl ?_
  refine p_bipush dX11_feed_4 (by decide) (by decide) ?_
  refine p_iadd dX11_feed_6 ?_
  refine p_bipush dX11_feed_7 (by decide) (by decide) ?_
  refine p_icmp_le (tgt := 14) (q := w32 ((h a0 1) + 20) ≤ 120) dX11_feed_9 (by decide) Iff.rfl (fun hc => ?_) (fun hc => ?_)
  · replace hf := Eq.mp (if_pos hc) hf
    refine p_iconst dX11_feed_14 (by decide) ?_
    refine p_istore (ls' := [(6, vi 0), (0, vr 11 a0 0), (1, vi x1), (2, vi x2), (3, vi x3), (4, vi x4), (5, vi x5)]) dX11_feed_15 (by decide) rfl ?_
    refine p_sub (ls' := [(0, vr 11 a0 0), (1, vi x1), (2, vi x2), (3, vi x3), (4, vi x4), (5, vi x5), (6, vi 0)]) [1, 2, 3, 4, 5, 6, 0] rfl ?_
    refine t_X11_feed_17 h0 ?_ NF _ _ _ _ _ _ _ hf
    · intro h5 hf
      refine p_aload_n dX11_feed_111 rfl 0 rfl ?_
      refine p_get (c := 11) (vi (h5 a0 1)) dX11_feed_112 1 tb_894 (by decide) (by decide) (Or.inl rfl) h0 rfl rfl ?_
      exact p_iret dX11_feed_115 rfl (by decide) (by decide) (fun _ q => absurd q List.not_mem_nil) hf
  · replace hf := Eq.mp (if_neg hc) hf
    refine p_iconst dX11_feed_12 (by decide) ?_
    exact p_iret dX11_feed_13 rfl (by decide) (by decide) (fun _ q => absurd q List.not_mem_nil) hf
theorem ok_X11_feed : mOK M_X11_feed 5 := ⟨tb_1074, tb_9, by decide +kernel⟩
abbrev M_X11_end : MD := (yX11_end, cX11_end, 2, some .boolean)
abbrev rm_X11_end : Room := { frames := 1, cells := 0, slots := 0, locals := 25 }
def w_X11_end (a0 x1 : Int) (h : Hh) (K : Int → Hh → Prop) : Prop := w_X11_in x1 0 (h a0 1) h (fun r1 h2 => if r1 ≠ 0 then (hb (up h2 a0 1 x1) fun h3 => K 1 h3) else (K 0 h2))
set_option maxRecDepth 100000 in
set_option maxHeartbeats 4000000 in
theorem t_X11_end {G : Gx} (a0 x1 : Int) (h : Hh) (K : Int → Hh → Prop) (h0 : 0 ≤ a0) (hf : w_X11_end a0 x1 h K) : CT G M_X11_end rm_X11_end 0 0 [] [vr 11 a0 0, vi x1] h K := by
  unfold w_X11_end at hf
  refine CT.of (ls0 := [(0, vr 11 a0 0), (1, vi x1)]) (plainFor_of_name (by decide +kernel)) (by decide +kernel) (Nat.le_of_ble_eq_true rfl) rfl rfl ?_
  refine p_iload_n dX11_end_0 rfl 1 rfl ?_
  refine p_i2l dX11_end_1 ?_
  refine p_lconst (z := 0) dX11_end_2 rfl ?_
  refine p_aload_n dX11_end_3 rfl 0 rfl ?_
  refine p_get (c := 11) (vi (h a0 1)) dX11_end_4 1 tb_894 (by decide) (by decide) (Or.inl rfl) h0 rfl rfl ?_
  refine p_i2l dX11_end_7 ?_
  refine p_callSi dX11_end_8 M_X11_in (Or.inr rfl) [vl x1, vl 0, vl (h a0 1)] (t_X11_in _ _ _ _ _ hf) ok_X11_in rfl tb_1079 tb_1080 rfl (Nat.le_of_ble_eq_true rfl) ⟨rfl, rfl⟩ ⟨by decide, by decide⟩ ⟨by decide, by decide⟩ (fun r1 h2 hf => ?_)
  refine p_if_ne (tgt := 16) (q := r1 ≠ 0) dX11_end_11 (by decide) Iff.rfl (fun hc => ?_) (fun hc => ?_)
  · replace hf := Eq.mp (if_pos hc) hf
    refine p_aload_n dX11_end_16 rfl 0 rfl ?_
    refine p_iload_n dX11_end_17 rfl 1 rfl ?_
    refine p_puti (c := 11) dX11_end_18 1 tb_894 (by decide) (by decide) (Or.inl rfl) h0 rfl rfl (fun _ => by decide) (up h2 a0 1 x1) rfl ?_
    replace hf := hb_e hf
    generalize up h2 a0 1 x1 = h3 at hf ⊢
    refine p_iconst dX11_end_21 (by decide) ?_
    exact p_zret dX11_end_22 rfl (by decide) (by decide) (fun _ q => absurd q List.not_mem_nil) (Or.inr rfl) hf
  · replace hf := Eq.mp (if_neg hc) hf
    refine p_iconst dX11_end_14 (by decide) ?_
    exact p_zret dX11_end_15 rfl (by decide) (by decide) (fun _ q => absurd q List.not_mem_nil) (Or.inl rfl) hf
theorem ok_X11_end : mOK M_X11_end 1 := ⟨tb_1078, tb_9, by decide +kernel⟩
abbrev M_X11_next : MD := (yX11_next, cX11_next, 2, none)
abbrev rm_X11_next : Room := { frames := 0, cells := 0, slots := 0, locals := 0 }
def w_X11_next_0 (K : Int → Hh → Prop) (X38 : Hh → Prop) (a0 : Int) : Nat → Hh → Prop
  | 0, _ => False
  | n + 1, h => if h a0 2 ≥ h a0 1 then (X38  h) else (((0 : Int) ≤ h a0 2 ∧ h a0 2 < 120) ∧ (if h (a0 + 1) (h a0 2) ≠ 32 then (X38  h) else (hb (up h a0 2 (w32 ((h a0 2) + 1))) fun h2 => w_X11_next_0 K X38 a0 n  h2)))
set_option maxRecDepth 100000 in
set_option maxHeartbeats 4000000 in
theorem t_X11_next_0 {G : Gx} {n0 : Int} {K : Int → Hh → Prop} {X38 : Hh → Prop} {a0 : Int} (h0 : 0 ≤ a0) (hX38 : ∀ (h : Hh), X38  h → PW G M_X11_next rm_X11_next 0 0 [] n0 K 38 [(0, vr 11 a0 0)] [] [] 0 0 h) : ∀ (n : Nat) (h : Hh), w_X11_next_0 K X38 a0 n  h → PW G M_X11_next rm_X11_next 0 0 [] n0 K 0 [(0, vr 11 a0 0)] [] [] 0 0 h := by
  intro n
  induction n with
  | zero =>
    intro h hf
    rw [w_X11_next_0] at hf
    exact hf.elim
  | succ n ih =>
    intro h hf
    rw [w_X11_next_0] at hf
    refine p_aload_n dX11_next_0 rfl 0 rfl ?_
    refine p_get (c := 11) (vi (h a0 2)) dX11_next_1 2 tb_895 (by decide) (by decide) (Or.inl rfl) h0 rfl rfl ?_
    refine p_aload_n dX11_next_4 rfl 0 rfl ?_
    refine p_get (c := 11) (vi (h a0 1)) dX11_next_5 1 tb_894 (by decide) (by decide) (Or.inl rfl) h0 rfl rfl ?_
    refine p_icmp_ge (tgt := 38) (q := h a0 2 ≥ h a0 1) dX11_next_8 (by decide) Iff.rfl (fun hc => ?_) (fun hc => ?_)
    · replace hf := Eq.mp (if_pos hc) hf
      exact hX38  _ hf
    · replace hf := Eq.mp (if_neg hc) hf
      refine p_aload_n dX11_next_11 rfl 0 rfl ?_
      refine p_lay (c := 11) (tq := 102) (n := 120) dX11_next_12 0 1 tb_893 (by decide) (by decide) h0 (by decide) (by decide) (fun _ => rfl) (vr 102 (a0 + 1) 120) rfl ?_
      refine p_aload_n dX11_next_15 rfl 0 rfl ?_
      refine p_get (c := 11) (vi (h a0 2)) dX11_next_16 2 tb_895 (by decide) (by decide) (Or.inl rfl) h0 rfl rfl ?_
      obtain ⟨c1, hf⟩ := hf
      refine p_bald dX11_next_19 (by omega) c1 ?_
      refine p_bipush dX11_next_20 (by decide) (by decide) ?_
      refine p_icmp_ne (tgt := 38) (q := h (a0 + 1) (h a0 2) ≠ 32) dX11_next_22 (by decide) Iff.rfl (fun hc => ?_) (fun hc => ?_)
      · replace hf := Eq.mp (if_pos hc) hf
        exact hX38  _ hf
      · replace hf := Eq.mp (if_neg hc) hf
        refine p_aload_n dX11_next_25 rfl 0 rfl ?_
        refine p_dup dX11_next_26 (fun _ q => by cases q) ?_
        refine p_get (c := 11) (vi (h a0 2)) dX11_next_27 2 tb_895 (by decide) (by decide) (Or.inl rfl) h0 rfl rfl ?_
        refine p_iconst dX11_next_30 (by decide) ?_
        refine p_iadd dX11_next_31 ?_
        refine p_puti (c := 11) dX11_next_32 2 tb_895 (by decide) (by decide) (Or.inl rfl) h0 rfl rfl (fun _ => by decide) (up h a0 2 (w32 ((h a0 2) + 1))) rfl ?_
        replace hf := hb_e hf
        generalize up h a0 2 (w32 ((h a0 2) + 1)) = h2 at hf ⊢
        refine p_goto (tgt := 0) dX11_next_35 (by decide) ?_
        exact ih  _ hf
def w_X11_next_246 (K : Int → Hh → Prop) (a0 : Int) (v1 s0 s1 : Int) (h : Hh) : Prop := 0 ≤ s1 ∧ (hb (up h s1 3 s0) fun h10 => hb (up h10 a0 5 v1) fun h11 => hb (up h11 a0 2 (w32 ((h11 a0 2) + 1))) fun h12 => K 0 h12)
set_option maxRecDepth 100000 in
set_option maxHeartbeats 4000000 in
theorem t_X11_next_246 {G : Gx} {n0 : Int} {K : Int → Hh → Prop} {a0 : Int} (h0 : 0 ≤ a0)  (v1 s0 s1 : Int) (h : Hh) (hf : w_X11_next_246 K  a0 v1 s0 s1 h) : PW G M_X11_next rm_X11_next 0 0 [] n0 K 246 [(0, vr 11 a0 0), (1, vi v1)] [vi s0, vr 11 s1 0] [] 0 0 h := by
  unfold w_X11_next_246 at hf
  obtain ⟨c9, hf⟩ := hf
  refine p_puti (c := 11) dX11_next_246 3 tb_896 (by decide) (by decide) (Or.inl rfl) c9 rfl rfl (fun _ => by decide) (up h s1 3 s0) rfl ?_
  replace hf := hb_e hf
  generalize up h s1 3 s0 = h10 at hf ⊢
  refine p_aload_n dX11_next_249 rfl 0 rfl ?_
  refine p_iload_n dX11_next_250 rfl 1 rfl ?_
  refine p_puti (c := 11) dX11_next_251 5 tb_898 (by decide) (by decide) (Or.inl rfl) h0 rfl rfl (fun _ => by decide) (up h10 a0 5 v1) rfl ?_
  replace hf := hb_e hf
  generalize up h10 a0 5 v1 = h11 at hf ⊢
  refine p_aload_n dX11_next_254 rfl 0 rfl ?_
  refine p_dup dX11_next_255 (fun _ q => by cases q) ?_
  refine p_get (c := 11) (vi (h11 a0 2)) dX11_next_256 2 tb_895 (by decide) (by decide) (Or.inl rfl) h0 rfl rfl ?_
  refine p_iconst dX11_next_259 (by decide) ?_
  refine p_iadd dX11_next_260 ?_
  refine p_puti (c := 11) dX11_next_261 2 tb_895 (by decide) (by decide) (Or.inl rfl) h0 rfl rfl (fun _ => by decide) (up h11 a0 2 (w32 ((h11 a0 2) + 1))) rfl ?_
  replace hf := hb_e hf
  generalize up h11 a0 2 (w32 ((h11 a0 2) + 1)) = h12 at hf ⊢
  exact p_vret dX11_next_264 rfl (by decide) (by decide) (fun _ q => absurd q List.not_mem_nil) hf
def w_X11_next_241 (K : Int → Hh → Prop) (a0 : Int) (v1 s0 : Int) (h : Hh) : Prop := w_X11_next_246 K  a0 v1 3 s0 h
set_option maxRecDepth 100000 in
set_option maxHeartbeats 4000000 in
theorem t_X11_next_241 {G : Gx} {n0 : Int} {K : Int → Hh → Prop} {a0 : Int} (h0 : 0 ≤ a0)  (v1 s0 : Int) (h : Hh) (hf : w_X11_next_241 K  a0 v1 s0 h) : PW G M_X11_next rm_X11_next 0 0 [] n0 K 241 [(0, vr 11 a0 0), (1, vi v1)] [vr 11 s0 0] [] 0 0 h := by
  unfold w_X11_next_241 at hf
  refine p_iconst dX11_next_241 (by decide) ?_
  refine p_goto (tgt := 246) dX11_next_242 (by decide) ?_
  exact t_X11_next_246 h0  _ _ _ _ hf
def w_X11_next_205 (K : Int → Hh → Prop) (a0 : Int) (v1 s0 : Int) (h : Hh) : Prop := if v1 = 61 then (w_X11_next_241 K  a0 v1 s0 h) else (if v1 = 43 then (w_X11_next_241 K  a0 v1 s0 h) else (if v1 = 45 then (w_X11_next_241 K  a0 v1 s0 h) else (if v1 = 42 then (w_X11_next_241 K  a0 v1 s0 h) else (if v1 = 47 then (w_X11_next_241 K  a0 v1 s0 h) else (if v1 ≠ 59 then (w_X11_next_246 K  a0 v1 4 s0 h) else (w_X11_next_241 K  a0 v1 s0 h))))))
set_option maxRecDepth 100000 in
set_option maxHeartbeats 4000000 in
theorem t_X11_next_205 {G : Gx} {n0 : Int} {K : Int → Hh → Prop} {a0 : Int} (h0 : 0 ≤ a0)  (v1 s0 : Int) (h : Hh) (hf : w_X11_next_205 K  a0 v1 s0 h) : PW G M_X11_next rm_X11_next 0 0 [] n0 K 205 [(0, vr 11 a0 0), (1, vi v1)] [vr 11 s0 0] [] 0 0 h := by
  unfold w_X11_next_205 at hf
  refine p_iload_n dX11_next_205 rfl 1 rfl ?_
  refine p_bipush dX11_next_206 (by decide) (by decide) ?_
  refine p_icmp_eq (tgt := 241) (q := v1 = 61) dX11_next_208 (by decide) Iff.rfl (fun hc => ?_) (fun hc => ?_)
  · replace hf := Eq.mp (if_pos hc) hf
    exact t_X11_next_241 h0  _ _ _ hf
  · replace hf := Eq.mp (if_neg hc) hf
    refine p_iload_n dX11_next_211 rfl 1 rfl ?_
    refine p_bipush dX11_next_212 (by decide) (by decide) ?_
    refine p_icmp_eq (tgt := 241) (q := v1 = 43) dX11_next_214 (by decide) Iff.rfl (fun hc => ?_) (fun hc => ?_)
    · replace hf := Eq.mp (if_pos hc) hf
      exact t_X11_next_241 h0  _ _ _ hf
    · replace hf := Eq.mp (if_neg hc) hf
      refine p_iload_n dX11_next_217 rfl 1 rfl ?_
      refine p_bipush dX11_next_218 (by decide) (by decide) ?_
      refine p_icmp_eq (tgt := 241) (q := v1 = 45) dX11_next_220 (by decide) Iff.rfl (fun hc => ?_) (fun hc => ?_)
      · replace hf := Eq.mp (if_pos hc) hf
        exact t_X11_next_241 h0  _ _ _ hf
      · replace hf := Eq.mp (if_neg hc) hf
        refine p_iload_n dX11_next_223 rfl 1 rfl ?_
        refine p_bipush dX11_next_224 (by decide) (by decide) ?_
        refine p_icmp_eq (tgt := 241) (q := v1 = 42) dX11_next_226 (by decide) Iff.rfl (fun hc => ?_) (fun hc => ?_)
        · replace hf := Eq.mp (if_pos hc) hf
          exact t_X11_next_241 h0  _ _ _ hf
        · replace hf := Eq.mp (if_neg hc) hf
          refine p_iload_n dX11_next_229 rfl 1 rfl ?_
          refine p_bipush dX11_next_230 (by decide) (by decide) ?_
          refine p_icmp_eq (tgt := 241) (q := v1 = 47) dX11_next_232 (by decide) Iff.rfl (fun hc => ?_) (fun hc => ?_)
          · replace hf := Eq.mp (if_pos hc) hf
            exact t_X11_next_241 h0  _ _ _ hf
          · replace hf := Eq.mp (if_neg hc) hf
            refine p_iload_n dX11_next_235 rfl 1 rfl ?_
            refine p_bipush dX11_next_236 (by decide) (by decide) ?_
            refine p_icmp_ne (tgt := 245) (q := v1 ≠ 59) dX11_next_238 (by decide) Iff.rfl (fun hc => ?_) (fun hc => ?_)
            · replace hf := Eq.mp (if_pos hc) hf
              refine p_iconst dX11_next_245 (by decide) ?_
              exact t_X11_next_246 h0  _ _ _ _ hf
            · replace hf := Eq.mp (if_neg hc) hf
              exact t_X11_next_241 h0  _ _ _ hf
def w_X11_next_188 (K : Int → Hh → Prop) (a0 : Int) (v1 : Int) (h : Hh) : Prop := if v1 < 97 then (w_X11_next_205 K  a0 v1 a0 h) else (if v1 > 122 then (w_X11_next_205 K  a0 v1 a0 h) else (w_X11_next_246 K  a0 v1 1 a0 h))
set_option maxRecDepth 100000 in
set_option maxHeartbeats 4000000 in
theorem t_X11_next_188 {G : Gx} {n0 : Int} {K : Int → Hh → Prop} {a0 : Int} (h0 : 0 ≤ a0)  (v1 : Int) (h : Hh) (hf : w_X11_next_188 K  a0 v1 h) : PW G M_X11_next rm_X11_next 0 0 [] n0 K 188 [(0, vr 11 a0 0), (1, vi v1)] [] [] 0 0 h := by
  unfold w_X11_next_188 at hf
  refine p_aload_n dX11_next_188 rfl 0 rfl ?_
  refine p_iload_n dX11_next_189 rfl 1 rfl ?_
  refine p_bipush dX11_next_190 (by decide) (by decide) ?_
  refine p_icmp_lt (tgt := 205) (q := v1 < 97) dX11_next_192 (by decide) Iff.rfl (fun hc => ?_) (fun hc => ?_)
  · replace hf := Eq.mp (if_pos hc) hf
    exact t_X11_next_205 h0  _ _ _ hf
  · replace hf := Eq.mp (if_neg hc) hf
    refine p_iload_n dX11_next_195 rfl 1 rfl ?_
    refine p_bipush dX11_next_196 (by decide) (by decide) ?_
    refine p_icmp_gt (tgt := 205) (q := v1 > 122) dX11_next_198 (by decide) Iff.rfl (fun hc => ?_) (fun hc => ?_)
    · replace hf := Eq.mp (if_pos hc) hf
      exact t_X11_next_205 h0  _ _ _ hf
    · replace hf := Eq.mp (if_neg hc) hf
      refine p_iconst dX11_next_201 (by decide) ?_
      refine p_goto (tgt := 246) dX11_next_202 (by decide) ?_
      exact t_X11_next_246 h0  _ _ _ _ hf
def w_X11_next_166 (K : Int → Hh → Prop) (B : Hh → Prop) (X182 : Hh → Prop) (a0 : Int) (s0 s1 : Int) (h : Hh) : Prop := 0 ≤ s1 ∧ (hb (up h s1 5 s0) fun h15 => hb (up h15 a0 2 (w32 ((h15 a0 2) + 1))) fun h16 => B  h16)
set_option maxRecDepth 100000 in
set_option maxHeartbeats 4000000 in
theorem t_X11_next_166 {G : Gx} {n0 : Int} {K : Int → Hh → Prop} {B : Hh → Prop} {X182 : Hh → Prop} {a0 : Int} (h0 : 0 ≤ a0) (hB : ∀ (h : Hh), B  h → PW G M_X11_next rm_X11_next 0 0 [] n0 K 90 [(0, vr 11 a0 0)] [] [] 0 0 h) (hX182 : ∀ (h : Hh), X182  h → PW G M_X11_next rm_X11_next 0 0 [] n0 K 182 [(0, vr 11 a0 0)] [] [] 0 0 h)  (s0 s1 : Int) (h : Hh) (hf : w_X11_next_166 K B X182 a0 s0 s1 h) : PW G M_X11_next rm_X11_next 0 0 [] n0 K 166 [(0, vr 11 a0 0)] [vi s0, vr 11 s1 0] [] 0 0 h := by
  unfold w_X11_next_166 at hf
  obtain ⟨c14, hf⟩ := hf
  refine p_puti (c := 11) dX11_next_166 5 tb_898 (by decide) (by decide) (Or.inl rfl) c14 rfl rfl (fun _ => by decide) (up h s1 5 s0) rfl ?_
  replace hf := hb_e hf
  generalize up h s1 5 s0 = h15 at hf ⊢
  refine p_aload_n dX11_next_169 rfl 0 rfl ?_
  refine p_dup dX11_next_170 (fun _ q => by cases q) ?_
  refine p_get (c := 11) (vi (h15 a0 2)) dX11_next_171 2 tb_895 (by decide) (by decide) (Or.inl rfl) h0 rfl rfl ?_
  refine p_iconst dX11_next_174 (by decide) ?_
  refine p_iadd dX11_next_175 ?_
  refine p_puti (c := 11) dX11_next_176 2 tb_895 (by decide) (by decide) (Or.inl rfl) h0 rfl rfl (fun _ => by decide) (up h15 a0 2 (w32 ((h15 a0 2) + 1))) rfl ?_
  replace hf := hb_e hf
  generalize up h15 a0 2 (w32 ((h15 a0 2) + 1)) = h16 at hf ⊢
  refine p_goto (tgt := 90) dX11_next_179 (by decide) ?_
  exact hB  _ hf
def w_X11_next_90 (K : Int → Hh → Prop) (X182 : Hh → Prop) (a0 : Int) : Nat → Hh → Prop
  | 0, _ => False
  | n + 1, h => if h a0 2 ≥ h a0 1 then (X182  h) else (((0 : Int) ≤ h a0 2 ∧ h a0 2 < 120) ∧ (if h (a0 + 1) (h a0 2) < 48 then (X182  h) else (if h (a0 + 1) (h a0 2) > 57 then (X182  h) else (if h a0 5 ≤ 99999 then (w_X11_next_166 K (w_X11_next_90 K X182 a0 n) X182 a0 (w32 ((w32 ((w32 (10 * (h a0 5))) + (h (a0 + 1) (h a0 2)))) - 48)) a0 h) else (w_X11_next_166 K (w_X11_next_90 K X182 a0 n) X182 a0 (h a0 5) a0 h)))))
set_option maxRecDepth 100000 in
set_option maxHeartbeats 4000000 in
theorem t_X11_next_90 {G : Gx} {n0 : Int} {K : Int → Hh → Prop} {X182 : Hh → Prop} {a0 : Int} (h0 : 0 ≤ a0) (hX182 : ∀ (h : Hh), X182  h → PW G M_X11_next rm_X11_next 0 0 [] n0 K 182 [(0, vr 11 a0 0)] [] [] 0 0 h) : ∀ (n : Nat) (h : Hh), w_X11_next_90 K X182 a0 n  h → PW G M_X11_next rm_X11_next 0 0 [] n0 K 90 [(0, vr 11 a0 0)] [] [] 0 0 h := by
  intro n
  induction n with
  | zero =>
    intro h hf
    rw [w_X11_next_90] at hf
    exact hf.elim
  | succ n ih =>
    intro h hf
    rw [w_X11_next_90] at hf
    refine p_aload_n dX11_next_90 rfl 0 rfl ?_
    refine p_get (c := 11) (vi (h a0 2)) dX11_next_91 2 tb_895 (by decide) (by decide) (Or.inl rfl) h0 rfl rfl ?_
    refine p_aload_n dX11_next_94 rfl 0 rfl ?_
    refine p_get (c := 11) (vi (h a0 1)) dX11_next_95 1 tb_894 (by decide) (by decide) (Or.inl rfl) h0 rfl rfl ?_
    refine p_icmp_ge (tgt := 182) (q := h a0 2 ≥ h a0 1) dX11_next_98 (by decide) Iff.rfl (fun hc => ?_) (fun hc => ?_)
    · replace hf := Eq.mp (if_pos hc) hf
      exact hX182  _ hf
    · replace hf := Eq.mp (if_neg hc) hf
      refine p_aload_n dX11_next_101 rfl 0 rfl ?_
      refine p_lay (c := 11) (tq := 102) (n := 120) dX11_next_102 0 1 tb_893 (by decide) (by decide) h0 (by decide) (by decide) (fun _ => rfl) (vr 102 (a0 + 1) 120) rfl ?_
      refine p_aload_n dX11_next_105 rfl 0 rfl ?_
      refine p_get (c := 11) (vi (h a0 2)) dX11_next_106 2 tb_895 (by decide) (by decide) (Or.inl rfl) h0 rfl rfl ?_
      obtain ⟨c13, hf⟩ := hf
      refine p_bald dX11_next_109 (by omega) c13 ?_
      refine p_bipush dX11_next_110 (by decide) (by decide) ?_
      refine p_icmp_lt (tgt := 182) (q := h (a0 + 1) (h a0 2) < 48) dX11_next_112 (by decide) Iff.rfl (fun hc => ?_) (fun hc => ?_)
      · replace hf := Eq.mp (if_pos hc) hf
        exact hX182  _ hf
      · replace hf := Eq.mp (if_neg hc) hf
        refine p_aload_n dX11_next_115 rfl 0 rfl ?_
        refine p_lay (c := 11) (tq := 102) (n := 120) dX11_next_116 0 1 tb_893 (by decide) (by decide) h0 (by decide) (by decide) (fun _ => rfl) (vr 102 (a0 + 1) 120) rfl ?_
        refine p_aload_n dX11_next_119 rfl 0 rfl ?_
        refine p_get (c := 11) (vi (h a0 2)) dX11_next_120 2 tb_895 (by decide) (by decide) (Or.inl rfl) h0 rfl rfl ?_
        refine p_bald dX11_next_123 (by omega) c13 ?_
        refine p_bipush dX11_next_124 (by decide) (by decide) ?_
        refine p_icmp_gt (tgt := 182) (q := h (a0 + 1) (h a0 2) > 57) dX11_next_126 (by decide) Iff.rfl (fun hc => ?_) (fun hc => ?_)
        · replace hf := Eq.mp (if_pos hc) hf
          exact hX182  _ hf
        · replace hf := Eq.mp (if_neg hc) hf
          refine p_aload_n dX11_next_129 rfl 0 rfl ?_
          refine p_aload_n dX11_next_130 rfl 0 rfl ?_
          refine p_get (c := 11) (vi (h a0 5)) dX11_next_131 5 tb_898 (by decide) (by decide) (Or.inl rfl) h0 rfl rfl ?_
          refine p_ldc (z := 99999) dX11_next_134 tb_1094 (by decide) ?_
          refine p_icmp_le (tgt := 146) (q := h a0 5 ≤ 99999) dX11_next_136 (by decide) Iff.rfl (fun hc => ?_) (fun hc => ?_)
          · replace hf := Eq.mp (if_pos hc) hf
            refine p_bipush dX11_next_146 (by decide) (by decide) ?_
            refine p_aload_n dX11_next_148 rfl 0 rfl ?_
            refine p_get (c := 11) (vi (h a0 5)) dX11_next_149 5 tb_898 (by decide) (by decide) (Or.inl rfl) h0 rfl rfl ?_
            refine p_imul dX11_next_152 ?_
            refine p_aload_n dX11_next_153 rfl 0 rfl ?_
            refine p_lay (c := 11) (tq := 102) (n := 120) dX11_next_154 0 1 tb_893 (by decide) (by decide) h0 (by decide) (by decide) (fun _ => rfl) (vr 102 (a0 + 1) 120) rfl ?_
            refine p_aload_n dX11_next_157 rfl 0 rfl ?_
            refine p_get (c := 11) (vi (h a0 2)) dX11_next_158 2 tb_895 (by decide) (by decide) (Or.inl rfl) h0 rfl rfl ?_
            refine p_bald dX11_next_161 (by omega) c13 ?_
            refine p_iadd dX11_next_162 ?_
            refine p_bipush dX11_next_163 (by decide) (by decide) ?_
            refine p_isub dX11_next_165 ?_
            exact t_X11_next_166 h0 ih hX182 _ _ _ hf
          · replace hf := Eq.mp (if_neg hc) hf
            refine p_aload_n dX11_next_139 rfl 0 rfl ?_
            refine p_get (c := 11) (vi (h a0 5)) dX11_next_140 5 tb_898 (by decide) (by decide) (Or.inl rfl) h0 rfl rfl ?_
            refine p_goto (tgt := 166) dX11_next_143 (by decide) ?_
            exact t_X11_next_166 h0 ih hX182 _ _ _ hf
def w_X11_next_182 (K : Int → Hh → Prop) (a0 : Int) (h : Hh) : Prop := hb (up h a0 3 2) fun h18 => K 0 h18
set_option maxRecDepth 100000 in
set_option maxHeartbeats 4000000 in
theorem t_X11_next_182 {G : Gx} {n0 : Int} {K : Int → Hh → Prop} {a0 : Int} (h0 : 0 ≤ a0)  (h : Hh) (hf : w_X11_next_182 K  a0  h) : PW G M_X11_next rm_X11_next 0 0 [] n0 K 182 [(0, vr 11 a0 0)] [] [] 0 0 h := by
  unfold w_X11_next_182 at hf
  refine p_aload_n dX11_next_182 rfl 0 rfl ?_
  refine p_iconst dX11_next_183 (by decide) ?_
  refine p_puti (c := 11) dX11_next_184 3 tb_896 (by decide) (by decide) (Or.inl rfl) h0 rfl rfl (fun _ => by decide) (up h a0 3 2) rfl ?_
  replace hf := hb_e hf
  generalize up h a0 3 2 = h18 at hf ⊢
  exact p_vret dX11_next_187 rfl (by decide) (by decide) (fun _ q => absurd q List.not_mem_nil) hf
def w_X11_next_38 (K : Int → Hh → Prop) (a0 : Int) (h : Hh) : Prop := hb (up h a0 4 (h a0 2)) fun h4 => hb (up h4 a0 3 0) fun h5 => hb (up h5 a0 5 0) fun h6 => if h6 a0 2 ≠ h6 a0 1 then (((0 : Int) ≤ h6 a0 2 ∧ h6 a0 2 < 120) ∧ (vb (h6 (a0 + 1) (h6 a0 2)) fun z8 => if z8 < 48 then (w_X11_next_188 K  a0 z8 h6) else (if z8 > 57 then (w_X11_next_188 K  a0 z8 h6) else (w_X11_next_90 K (fun h17 => w_X11_next_182 K  a0  h17) a0 NF  h6)))) else (K 0 h6)
set_option maxRecDepth 100000 in
set_option maxHeartbeats 4000000 in
theorem t_X11_next_38 {G : Gx} {n0 : Int} {K : Int → Hh → Prop} {a0 : Int} (h0 : 0 ≤ a0)  (h : Hh) (hf : w_X11_next_38 K  a0  h) : PW G M_X11_next rm_X11_next 0 0 [] n0 K 38 [(0, vr 11 a0 0)] [] [] 0 0 h := by
  unfold w_X11_next_38 at hf
  refine p_aload_n dX11_next_38 rfl 0 rfl ?_
  refine p_aload_n dX11_next_39 rfl 0 rfl ?_
  refine p_get (c := 11) (vi (h a0 2)) dX11_next_40 2 tb_895 (by decide) (by decide) (Or.inl rfl) h0 rfl rfl ?_
  refine p_puti (c := 11) dX11_next_43 4 tb_897 (by decide) (by decide) (Or.inl rfl) h0 rfl rfl (fun _ => by decide) (up h a0 4 (h a0 2)) rfl ?_
  replace hf := hb_e hf
  generalize up h a0 4 (h a0 2) = h4 at hf ⊢
  refine p_aload_n dX11_next_46 rfl 0 rfl ?_
  refine p_iconst dX11_next_47 (by decide) ?_
  refine p_puti (c := 11) dX11_next_48 3 tb_896 (by decide) (by decide) (Or.inl rfl) h0 rfl rfl (fun _ => by decide) (up h4 a0 3 0) rfl ?_
  replace hf := hb_e hf
  generalize up h4 a0 3 0 = h5 at hf ⊢
  refine p_aload_n dX11_next_51 rfl 0 rfl ?_
  refine p_iconst dX11_next_52 (by decide) ?_
  refine p_puti (c := 11) dX11_next_53 5 tb_898 (by decide) (by decide) (Or.inl rfl) h0 rfl rfl (fun _ => by decide) (up h5 a0 5 0) rfl ?_
  replace hf := hb_e hf
  generalize up h5 a0 5 0 = h6 at hf ⊢
  refine p_aload_n dX11_next_56 rfl 0 rfl ?_
  refine p_get (c := 11) (vi (h6 a0 2)) dX11_next_57 2 tb_895 (by decide) (by decide) (Or.inl rfl) h0 rfl rfl ?_
  refine p_aload_n dX11_next_60 rfl 0 rfl ?_
  refine p_get (c := 11) (vi (h6 a0 1)) dX11_next_61 1 tb_894 (by decide) (by decide) (Or.inl rfl) h0 rfl rfl ?_
  refine p_icmp_ne (tgt := 68) (q := h6 a0 2 ≠ h6 a0 1) dX11_next_64 (by decide) Iff.rfl (fun hc => ?_) (fun hc => ?_)
  · replace hf := Eq.mp (if_pos hc) hf
    refine p_aload_n dX11_next_68 rfl 0 rfl ?_
    refine p_lay (c := 11) (tq := 102) (n := 120) dX11_next_69 0 1 tb_893 (by decide) (by decide) h0 (by decide) (by decide) (fun _ => rfl) (vr 102 (a0 + 1) 120) rfl ?_
    refine p_aload_n dX11_next_72 rfl 0 rfl ?_
    refine p_get (c := 11) (vi (h6 a0 2)) dX11_next_73 2 tb_895 (by decide) (by decide) (Or.inl rfl) h0 rfl rfl ?_
    obtain ⟨c7, hf⟩ := hf
    refine p_bald dX11_next_76 (by omega) c7 ?_
    refine p_istore_n (ls' := [(1, vi (h6 (a0 + 1) (h6 a0 2))), (0, vr 11 a0 0)]) dX11_next_77 rfl (by decide) rfl ?_
    replace hf := vb_e hf
    generalize (h6 (a0 + 1) (h6 a0 2)) = z8 at hf ⊢
    refine p_iload_n dX11_next_78 rfl 0 rfl ?_
    refine p_bipush dX11_next_79 (by decide) (by decide) ?_
    refine p_icmp_lt (tgt := 188) (q := z8 < 48) dX11_next_81 (by decide) Iff.rfl (fun hc => ?_) (fun hc => ?_)
    · replace hf := Eq.mp (if_pos hc) hf
      refine p_sub (ls' := [(0, vr 11 a0 0), (1, vi z8)]) [1, 0] rfl ?_
      exact t_X11_next_188 h0  _ _ hf
    · replace hf := Eq.mp (if_neg hc) hf
      refine p_iload_n dX11_next_84 rfl 0 rfl ?_
      refine p_bipush dX11_next_85 (by decide) (by decide) ?_
      refine p_icmp_gt (tgt := 188) (q := z8 > 57) dX11_next_87 (by decide) Iff.rfl (fun hc => ?_) (fun hc => ?_)
      · replace hf := Eq.mp (if_pos hc) hf
        refine p_sub (ls' := [(0, vr 11 a0 0), (1, vi z8)]) [1, 0] rfl ?_
        exact t_X11_next_188 h0  _ _ hf
      · replace hf := Eq.mp (if_neg hc) hf
        refine p_sub (ls' := [(0, vr 11 a0 0)]) [1] rfl ?_
        refine t_X11_next_90 h0 ?_ NF  _ hf
        · intro h17 hf
          exact t_X11_next_182 h0   _ hf
  · replace hf := Eq.mp (if_neg hc) hf
    exact p_vret dX11_next_67 rfl (by decide) (by decide) (fun _ q => absurd q List.not_mem_nil) hf
def w_X11_next (a0 : Int) (h : Hh) (K : Int → Hh → Prop) : Prop := w_X11_next_0 K (fun h3 => w_X11_next_38 K  a0  h3) a0 NF  h
set_option maxRecDepth 100000 in
set_option maxHeartbeats 4000000 in
theorem t_X11_next {G : Gx} (a0 : Int) (h : Hh) (K : Int → Hh → Prop) (h0 : 0 ≤ a0) (hf : w_X11_next a0 h K) : CT G M_X11_next rm_X11_next 0 0 [] [vr 11 a0 0] h K := by
  unfold w_X11_next at hf
  refine CT.of (ls0 := [(0, vr 11 a0 0)]) (plainFor_of_name (by decide +kernel)) (by decide +kernel) (Nat.le_of_ble_eq_true rfl) rfl rfl ?_
  refine t_X11_next_0 h0 ?_ NF  _ hf
  · intro h3 hf
    exact t_X11_next_38 h0   _ hf
theorem ok_X11_next : mOK M_X11_next 0 := ⟨tb_1093, tb_9, by decide +kernel⟩
abbrev M_X11_isSign : MD := (yX11_isSign, cX11_isSign, 2, some .boolean)
abbrev rm_X11_isSign : Room := { frames := 0, cells := 0, slots := 0, locals := 0 }
def w_X11_isSign_21 (K : Int → Hh → Prop) (a0 : Int) (s0 : Int) (h : Hh) : Prop := (s0 = 0 ∨ s0 = 1) ∧ (K s0 h)
set_option maxRecDepth 100000 in
set_option maxHeartbeats 4000000 in
theorem t_X11_isSign_21 {G : Gx} {n0 : Int} {K : Int → Hh → Prop} {a0 : Int} (h0 : 0 ≤ a0)  (s0 : Int) (h : Hh) (hf : w_X11_isSign_21 K  a0 s0 h) : PW G M_X11_isSign rm_X11_isSign 0 0 [] n0 K 21 [] [vi s0] [] 0 0 h := by
  unfold w_X11_isSign_21 at hf
  obtain ⟨c1, hf⟩ := hf
  exact p_zret dX11_isSign_21 rfl (by decide) (by decide) (fun _ q => absurd q List.not_mem_nil) c1 hf
def w_X11_isSign_20 (K : Int → Hh → Prop) (a0 : Int) (h : Hh) : Prop := w_X11_isSign_21 K  a0 0 h
set_option maxRecDepth 100000 in
set_option maxHeartbeats 4000000 in
theorem t_X11_isSign_20 {G : Gx} {n0 : Int} {K : Int → Hh → Prop} {a0 : Int} (h0 : 0 ≤ a0)  (h : Hh) (hf : w_X11_isSign_20 K  a0  h) : PW G M_X11_isSign rm_X11_isSign 0 0 [] n0 K 20 [] [] [] 0 0 h := by
  unfold w_X11_isSign_20 at hf
  refine p_iconst dX11_isSign_20 (by decide) ?_
  exact t_X11_isSign_21 h0  _ _ hf
def w_X11_isSign (a0 x1 : Int) (h : Hh) (K : Int → Hh → Prop) : Prop := if h a0 3 ≠ 3 then (w_X11_isSign_20 K  a0  h) else (if h a0 5 ≠ x1 then (w_X11_isSign_20 K  a0  h) else (w_X11_isSign_21 K  a0 1 h))
set_option maxRecDepth 100000 in
set_option maxHeartbeats 4000000 in
theorem t_X11_isSign {G : Gx} (a0 x1 : Int) (h : Hh) (K : Int → Hh → Prop) (h0 : 0 ≤ a0) (hf : w_X11_isSign a0 x1 h K) : CT G M_X11_isSign rm_X11_isSign 0 0 [] [vr 11 a0 0, vi x1] h K := by
  unfold w_X11_isSign at hf
  refine CT.of (ls0 := [(0, vr 11 a0 0), (1, vi x1)]) (plainFor_of_name (by decide +kernel)) (by decide +kernel) (Nat.le_of_ble_eq_true rfl) rfl rfl ?_
  refine p_aload_n dX11_isSign_0 rfl 0 rfl ?_
  refine p_get (c := 11) (vi (h a0 3)) dX11_isSign_1 3 tb_896 (by decide) (by decide) (Or.inl rfl) h0 rfl rfl ?_
  refine p_iconst dX11_isSign_4 (by decide) ?_
  refine p_icmp_ne (tgt := 20) (q := h a0 3 ≠ 3) dX11_isSign_5 (by decide) Iff.rfl (fun hc => ?_) (fun hc => ?_)
  · replace hf := Eq.mp (if_pos hc) hf
    refine p_sub (ls' := []) [] rfl ?_
    exact t_X11_isSign_20 h0   _ hf
  · replace hf := Eq.mp (if_neg hc) hf
    refine p_aload_n dX11_isSign_8 rfl 0 rfl ?_
    refine p_get (c := 11) (vi (h a0 5)) dX11_isSign_9 5 tb_898 (by decide) (by decide) (Or.inl rfl) h0 rfl rfl ?_
    refine p_iload_n dX11_isSign_12 rfl 1 rfl ?_
    refine p_icmp_ne (tgt := 20) (q := h a0 5 ≠ x1) dX11_isSign_13 (by decide) Iff.rfl (fun hc => ?_) (fun hc => ?_)
    · replace hf := Eq.mp (if_pos hc) hf
      refine p_sub (ls' := []) [] rfl ?_
      exact t_X11_isSign_20 h0   _ hf
    · replace hf := Eq.mp (if_neg hc) hf
      refine p_iconst dX11_isSign_16 (by decide) ?_
      refine p_goto (tgt := 21) dX11_isSign_17 (by decide) ?_
      refine p_sub (ls' := []) [] rfl ?_
      exact t_X11_isSign_21 h0  _ _ hf
theorem ok_X11_isSign : mOK M_X11_isSign 1 := ⟨tb_1106, tb_9, by decide +kernel⟩
abbrev M_X11_isNew : MD := (yX11_isNew, cX11_isNew, 2, some .boolean)
abbrev rm_X11_isNew : Room := { frames := 0, cells := 0, slots := 0, locals := 0 }
def w_X11_isNew_12 (K : Int → Hh → Prop) (X33 : Hh → Prop) (X41 : Hh → Prop) (a0 : Int) : Nat → Int → Hh → Prop
  | 0, _, _ => False
  | n + 1, v1, h => if v1 ≥ h a0 6 then (X41  h) else (((0 : Int) ≤ v1 ∧ v1 < 5) ∧ (if h (a0 + 2) v1 ≠ h a0 5 then (vb (w32 (v1 + 1)) fun z2 => w_X11_isNew_12 K X33 X41 a0 n z2 h) else (X33  h)))
set_option maxRecDepth 100000 in
set_option maxHeartbeats 4000000 in
theorem t_X11_isNew_12 {G : Gx} {n0 : Int} {K : Int → Hh → Prop} {X33 : Hh → Prop} {X41 : Hh → Prop} {a0 : Int} (h0 : 0 ≤ a0) (hX33 : ∀ (h : Hh), X33  h → PW G M_X11_isNew rm_X11_isNew 0 0 [] n0 K 33 [] [] [] 0 0 h) (hX41 : ∀ (h : Hh), X41  h → PW G M_X11_isNew rm_X11_isNew 0 0 [] n0 K 41 [] [] [] 0 0 h) : ∀ (n : Nat) (v1 : Int) (h : Hh), w_X11_isNew_12 K X33 X41 a0 n v1 h → PW G M_X11_isNew rm_X11_isNew 0 0 [] n0 K 12 [(0, vr 11 a0 0), (1, vi v1)] [] [] 0 0 h := by
  intro n
  induction n with
  | zero =>
    intro v1 h hf
    rw [w_X11_isNew_12] at hf
    exact hf.elim
  | succ n ih =>
    intro v1 h hf
    rw [w_X11_isNew_12] at hf
    refine p_iload_n dX11_isNew_12 rfl 1 rfl ?_
    refine p_aload_n dX11_isNew_13 rfl 0 rfl ?_
    refine p_get (c := 11) (vi (h a0 6)) dX11_isNew_14 6 tb_899 (by decide) (by decide) (Or.inl rfl) h0 rfl rfl ?_
    refine p_icmp_ge (tgt := 41) (q := v1 ≥ h a0 6) dX11_isNew_17 (by decide) Iff.rfl (fun hc => ?_) (fun hc => ?_)
    · replace hf := Eq.mp (if_pos hc) hf
      refine p_sub (ls' := []) [] rfl ?_
      exact hX41  _ hf
    · replace hf := Eq.mp (if_neg hc) hf
      refine p_aload_n dX11_isNew_20 rfl 0 rfl ?_
      refine p_lay (c := 11) (tq := 100) (n := 5) dX11_isNew_21 7 2 tb_900 (by decide) (by decide) h0 (by decide) (by decide) (fun _ => rfl) (vr 100 (a0 + 2) 5) rfl ?_
      refine p_iload_n dX11_isNew_24 rfl 1 rfl ?_
      obtain ⟨c1, hf⟩ := hf
      refine p_iald dX11_isNew_25 (by omega) c1 ?_
      refine p_aload_n dX11_isNew_26 rfl 0 rfl ?_
      refine p_get (c := 11) (vi (h a0 5)) dX11_isNew_27 5 tb_898 (by decide) (by decide) (Or.inl rfl) h0 rfl rfl ?_
      refine p_icmp_ne (tgt := 35) (q := h (a0 + 2) v1 ≠ h a0 5) dX11_isNew_30 (by decide) Iff.rfl (fun hc => ?_) (fun hc => ?_)
      · replace hf := Eq.mp (if_pos hc) hf
        refine p_iinc (ls' := [(1, vi (w32 (v1 + 1))), (0, vr 11 a0 0)]) dX11_isNew_35 1 rfl (by decide) rfl ?_
        replace hf := vb_e hf
        generalize w32 (v1 + 1) = z2 at hf ⊢
        refine p_goto (tgt := 12) dX11_isNew_38 (by decide) ?_
        refine p_sub (ls' := [(0, vr 11 a0 0), (1, vi z2)]) [1, 0] rfl ?_
        exact ih _ _ hf
      · replace hf := Eq.mp (if_neg hc) hf
        refine p_sub (ls' := []) [] rfl ?_
        exact hX33  _ hf
def w_X11_isNew (a0 : Int) (h : Hh) (K : Int → Hh → Prop) : Prop := if h a0 3 = 1 then (w_X11_isNew_12 K (fun h3 => K 0 h3) (fun h4 => K 1 h4) a0 NF 0 h) else (K 0 h)
set_option maxRecDepth 100000 in
set_option maxHeartbeats 4000000 in
theorem t_X11_isNew {G : Gx} (a0 : Int) (h : Hh) (K : Int → Hh → Prop) (h0 : 0 ≤ a0) (hf : w_X11_isNew a0 h K) : CT G M_X11_isNew rm_X11_isNew 0 0 [] [vr 11 a0 0] h K := by
  unfold w_X11_isNew at hf
  refine CT.of (ls0 := [(0, vr 11 a0 0)]) (plainFor_of_name (by decide +kernel)) (by decide +kernel) (Nat.le_of_ble_eq_true rfl) rfl rfl ?_
  refine p_aload_n dX11_isNew_0 rfl 0 rfl ?_
  refine p_get (c := 11) (vi (h a0 3)) dX11_isNew_1 3 tb_896 (by decide) (by decide) (Or.inl rfl) h0 rfl rfl ?_
  refine p_iconst dX11_isNew_4 (by decide) ?_
  refine p_icmp_eq (tgt := 10) (q := h a0 3 = 1) dX11_isNew_5 (by decide) Iff.rfl (fun hc => ?_) (fun hc => ?_)
  · replace hf := Eq.mp (if_pos hc) hf
    refine p_iconst dX11_isNew_10 (by decide) ?_
    refine p_istore_n (ls' := [(1, vi 0), (0, vr 11 a0 0)]) dX11_isNew_11 rfl (by decide) rfl ?_
    refine p_sub (ls' := [(0, vr 11 a0 0), (1, vi 0)]) [1, 0] rfl ?_
    refine t_X11_isNew_12 h0 ?_ ?_ NF _ _ hf
    · intro h3 hf
      refine p_iconst dX11_isNew_33 (by decide) ?_
      exact p_zret dX11_isNew_34 rfl (by decide) (by decide) (fun _ q => absurd q List.not_mem_nil) (Or.inl rfl) hf
    · intro h4 hf
      refine p_iconst dX11_isNew_41 (by decide) ?_
      exact p_zret dX11_isNew_42 rfl (by decide) (by decide) (fun _ q => absurd q List.not_mem_nil) (Or.inr rfl) hf
  · replace hf := Eq.mp (if_neg hc) hf
    refine p_iconst dX11_isNew_8 (by decide) ?_
    exact p_zret dX11_isNew_9 rfl (by decide) (by decide) (fun _ q => absurd q List.not_mem_nil) (Or.inl rfl) hf
theorem ok_X11_isNew : mOK M_X11_isNew 0 := ⟨tb_1110, tb_9, by decide +kernel⟩
abbrev M_X11_form : MD := (yX11_form, cX11_form, 5, some .boolean)
abbrev rm_X11_form : Room := { frames := 1, cells := 0, slots := 0, locals := 21 }
def w_X11_form_130 (K : Int → Hh → Prop) (a0 : Int) (v1 s0 s1 s2 s2n : Int) (h : Hh) : Prop := 0 ≤ s2 ∧ (((0 : Int) ≤ s1 ∧ s1 < s2n) ∧ (hb (up h s2 s1 s0) fun h11 => ((0 : Int) ≤ h11 a0 6 ∧ h11 a0 6 < 5) ∧ (hb (up h11 (a0 + 4) (h11 a0 6) v1) fun h13 => hb (up h13 a0 6 (w32 ((h13 a0 6) + 1))) fun h14 => K 1 h14)))
set_option maxRecDepth 100000 in
set_option maxHeartbeats 4000000 in
theorem t_X11_form_130 {G : Gx} {n0 : Int} {K : Int → Hh → Prop} {a0 : Int} (h0 : 0 ≤ a0)  (v1 s0 s1 s2 s2n : Int) (h : Hh) (hf : w_X11_form_130 K  a0 v1 s0 s1 s2 s2n h) : PW G M_X11_form rm_X11_form 0 0 [] n0 K 130 [(0, vr 11 a0 0), (1, vi v1)] [vi s0, vi s1, vr 100 s2 s2n] [] 0 0 h := by
  unfold w_X11_form_130 at hf
  obtain ⟨c9, hf⟩ := hf
  obtain ⟨c10, hf⟩ := hf
  refine p_iast dX11_form_130 c9 c10 ?_
  replace hf := hb_e hf
  generalize up h s2 s1 s0 = h11 at hf ⊢
  refine p_aload_n dX11_form_131 rfl 0 rfl ?_
  refine p_lay (c := 11) (tq := 100) (n := 5) dX11_form_132 9 4 tb_902 (by decide) (by decide) h0 (by decide) (by decide) (fun _ => rfl) (vr 100 (a0 + 4) 5) rfl ?_
  refine p_aload_n dX11_form_135 rfl 0 rfl ?_
  refine p_get (c := 11) (vi (h11 a0 6)) dX11_form_136 6 tb_899 (by decide) (by decide) (Or.inl rfl) h0 rfl rfl ?_
  refine p_iload_n dX11_form_139 rfl 1 rfl ?_
  obtain ⟨c12, hf⟩ := hf
  refine p_iast dX11_form_140 (by omega) c12 ?_
  replace hf := hb_e hf
  generalize up h11 (a0 + 4) (h11 a0 6) v1 = h13 at hf ⊢
  refine p_aload_n dX11_form_141 rfl 0 rfl ?_
  refine p_dup dX11_form_142 (fun _ q => by cases q) ?_
  refine p_get (c := 11) (vi (h13 a0 6)) dX11_form_143 6 tb_899 (by decide) (by decide) (Or.inl rfl) h0 rfl rfl ?_
  refine p_iconst dX11_form_146 (by decide) ?_
  refine p_iadd dX11_form_147 ?_
  refine p_puti (c := 11) dX11_form_148 6 tb_899 (by decide) (by decide) (Or.inl rfl) h0 rfl rfl (fun _ => by decide) (up h13 a0 6 (w32 ((h13 a0 6) + 1))) rfl ?_
  replace hf := hb_e hf
  generalize up h13 a0 6 (w32 ((h13 a0 6) + 1)) = h14 at hf ⊢
  refine p_iconst dX11_form_151 (by decide) ?_
  exact p_zret dX11_form_152 rfl (by decide) (by decide) (fun _ q => absurd q List.not_mem_nil) (Or.inr rfl) hf
def w_X11_form_94 (K : Int → Hh → Prop) (a0 : Int) (v1 v2 v3 v4 : Int) (h : Hh) : Prop := ((0 : Int) ≤ h a0 6 ∧ h a0 6 < 5) ∧ (hb (up h (a0 + 2) (h a0 6) v3) fun h8 => if v2 = 0 then (if v4 = 0 then (w_X11_form_130 K  a0 v1 0 (h8 a0 6) (a0 + 3) 5 h8) else (w_X11_form_130 K  a0 v1 1 (h8 a0 6) (a0 + 3) 5 h8)) else (w_X11_form_130 K  a0 v1 2 (h8 a0 6) (a0 + 3) 5 h8))
set_option maxRecDepth 100000 in
set_option maxHeartbeats 4000000 in
theorem t_X11_form_94 {G : Gx} {n0 : Int} {K : Int → Hh → Prop} {a0 : Int} (h0 : 0 ≤ a0)  (v1 v2 v3 v4 : Int) (h : Hh) (hf : w_X11_form_94 K  a0 v1 v2 v3 v4 h) : PW G M_X11_form rm_X11_form 0 0 [] n0 K 94 [(0, vr 11 a0 0), (1, vi v1), (2, vi v2), (3, vi v3), (4, vi v4)] [] [] 0 0 h := by
  unfold w_X11_form_94 at hf
  refine p_aload_n dX11_form_94 rfl 0 rfl ?_
  refine p_lay (c := 11) (tq := 100) (n := 5) dX11_form_95 7 2 tb_900 (by decide) (by decide) h0 (by decide) (by decide) (fun _ => rfl) (vr 100 (a0 + 2) 5) rfl ?_
  refine p_aload_n dX11_form_98 rfl 0 rfl ?_
  refine p_get (c := 11) (vi (h a0 6)) dX11_form_99 6 tb_899 (by decide) (by decide) (Or.inl rfl) h0 rfl rfl ?_
  refine p_iload_n dX11_form_102 rfl 3 rfl ?_
  obtain ⟨c7, hf⟩ := hf
  refine p_iast dX11_form_103 (by omega) c7 ?_
  replace hf := hb_e hf
  generalize up h (a0 + 2) (h a0 6) v3 = h8 at hf ⊢
  refine p_aload_n dX11_form_104 rfl 0 rfl ?_
  refine p_lay (c := 11) (tq := 100) (n := 5) dX11_form_105 8 3 tb_901 (by decide) (by decide) h0 (by decide) (by decide) (fun _ => rfl) (vr 100 (a0 + 3) 5) rfl ?_
  refine p_aload_n dX11_form_108 rfl 0 rfl ?_
  refine p_get (c := 11) (vi (h8 a0 6)) dX11_form_109 6 tb_899 (by decide) (by decide) (Or.inl rfl) h0 rfl rfl ?_
  refine p_iload_n dX11_form_112 rfl 2 rfl ?_
  refine p_if_eq (tgt := 120) (q := v2 = 0) dX11_form_113 (by decide) Iff.rfl (fun hc => ?_) (fun hc => ?_)
  · replace hf := Eq.mp (if_pos hc) hf
    refine p_iload dX11_form_120 4 rfl ?_
    refine p_if_eq (tgt := 129) (q := v4 = 0) dX11_form_122 (by decide) Iff.rfl (fun hc => ?_) (fun hc => ?_)
    · replace hf := Eq.mp (if_pos hc) hf
      refine p_iconst dX11_form_129 (by decide) ?_
      refine p_sub (ls' := [(0, vr 11 a0 0), (1, vi v1)]) [0, 1] rfl ?_
      exact t_X11_form_130 h0  _ _ _ _ _ _ hf
    · replace hf := Eq.mp (if_neg hc) hf
      refine p_iconst dX11_form_125 (by decide) ?_
      refine p_goto (tgt := 130) dX11_form_126 (by decide) ?_
      refine p_sub (ls' := [(0, vr 11 a0 0), (1, vi v1)]) [0, 1] rfl ?_
      exact t_X11_form_130 h0  _ _ _ _ _ _ hf
  · replace hf := Eq.mp (if_neg hc) hf
    refine p_iconst dX11_form_116 (by decide) ?_
    refine p_goto (tgt := 130) dX11_form_117 (by decide) ?_
    refine p_sub (ls' := [(0, vr 11 a0 0), (1, vi v1)]) [0, 1] rfl ?_
    exact t_X11_form_130 h0  _ _ _ _ _ _ hf
def w_X11_form_88 (K : Int → Hh → Prop) (a0 : Int) (h : Hh) : Prop := K 0 h
set_option maxRecDepth 100000 in
set_option maxHeartbeats 4000000 in
theorem t_X11_form_88 {G : Gx} {n0 : Int} {K : Int → Hh → Prop} {a0 : Int} (h0 : 0 ≤ a0)  (h : Hh) (hf : w_X11_form_88 K  a0  h) : PW G M_X11_form rm_X11_form 0 0 [] n0 K 88 [] [] [] 0 0 h := by
  unfold w_X11_form_88 at hf
  refine p_iconst dX11_form_88 (by decide) ?_
  exact p_zret dX11_form_89 rfl (by decide) (by decide) (fun _ q => absurd q List.not_mem_nil) (Or.inl rfl) hf
def w_X11_form_61 (K : Int → Hh → Prop) (a0 : Int) (v1 v2 v3 s0 : Int) (h : Hh) : Prop := if s0 = 0 then (w_X11_form_94 K  a0 v1 v2 v3 s0 h) else (w_X11_next a0 h (fun _ h15 => if h15 a0 3 ≠ 1 then (w_X11_form_88 K  a0  h15) else (if h15 a0 5 = v3 then (w_X11_next a0 h15 (fun _ h16 => w_X11_form_94 K  a0 v1 v2 v3 s0 h16)) else (w_X11_form_88 K  a0  h15))))
set_option maxRecDepth 100000 in
set_option maxHeartbeats 4000000 in
theorem t_X11_form_61 {G : Gx} {n0 : Int} {K : Int → Hh → Prop} {a0 : Int} (h0 : 0 ≤ a0)  (v1 v2 v3 s0 : Int) (h : Hh) (hf : w_X11_form_61 K  a0 v1 v2 v3 s0 h) : PW G M_X11_form rm_X11_form 0 0 [] n0 K 61 [(0, vr 11 a0 0), (1, vi v1), (2, vi v2), (3, vi v3)] [vi s0] [] 0 0 h := by
  unfold w_X11_form_61 at hf
  refine p_istore (ls' := [(4, vi s0), (0, vr 11 a0 0), (1, vi v1), (2, vi v2), (3, vi v3)]) dX11_form_61 (by decide) rfl ?_
  refine p_iload dX11_form_63 0 rfl ?_
  refine p_if_eq (tgt := 94) (q := s0 = 0) dX11_form_65 (by decide) Iff.rfl (fun hc => ?_) (fun hc => ?_)
  · replace hf := Eq.mp (if_pos hc) hf
    refine p_sub (ls' := [(0, vr 11 a0 0), (1, vi v1), (2, vi v2), (3, vi v3), (4, vi s0)]) [1, 2, 3, 4, 0] rfl ?_
    exact t_X11_form_94 h0  _ _ _ _ _ hf
  · replace hf := Eq.mp (if_neg hc) hf
    refine p_aload_n dX11_form_68 rfl 1 rfl ?_
    refine p_callVv dX11_form_69 M_X11_next rfl [] (t_X11_next _ _ _ h0 hf) ok_X11_next rfl (c := 11) (by decide) h0 rfl tb_1090 ⟨tb_1092, ts_73⟩ rfl (Nat.le_of_ble_eq_true rfl) ⟨rfl, rfl⟩ ⟨by decide, by decide⟩ ⟨by decide, by decide⟩ (fun _ h15 hf => ?_)
    refine p_aload_n dX11_form_72 rfl 1 rfl ?_
    refine p_get (c := 11) (vi (h15 a0 3)) dX11_form_73 3 tb_896 (by decide) (by decide) (Or.inl rfl) h0 rfl rfl ?_
    refine p_iconst dX11_form_76 (by decide) ?_
    refine p_icmp_ne (tgt := 88) (q := h15 a0 3 ≠ 1) dX11_form_77 (by decide) Iff.rfl (fun hc => ?_) (fun hc => ?_)
    · replace hf := Eq.mp (if_pos hc) hf
      refine p_sub (ls' := []) [] rfl ?_
      exact t_X11_form_88 h0   _ hf
    · replace hf := Eq.mp (if_neg hc) hf
      refine p_aload_n dX11_form_80 rfl 1 rfl ?_
      refine p_get (c := 11) (vi (h15 a0 5)) dX11_form_81 5 tb_898 (by decide) (by decide) (Or.inl rfl) h0 rfl rfl ?_
      refine p_iload_n dX11_form_84 rfl 4 rfl ?_
      refine p_icmp_eq (tgt := 90) (q := h15 a0 5 = v3) dX11_form_85 (by decide) Iff.rfl (fun hc => ?_) (fun hc => ?_)
      · replace hf := Eq.mp (if_pos hc) hf
        refine p_aload_n dX11_form_90 rfl 1 rfl ?_
        refine p_callVv dX11_form_91 M_X11_next rfl [] (t_X11_next _ _ _ h0 hf) ok_X11_next rfl (c := 11) (by decide) h0 rfl tb_1090 ⟨tb_1092, ts_73⟩ rfl (Nat.le_of_ble_eq_true rfl) ⟨rfl, rfl⟩ ⟨by decide, by decide⟩ ⟨by decide, by decide⟩ (fun _ h16 hf => ?_)
        refine p_sub (ls' := [(0, vr 11 a0 0), (1, vi v1), (2, vi v2), (3, vi v3), (4, vi s0)]) [1, 2, 3, 4, 0] rfl ?_
        exact t_X11_form_94 h0  _ _ _ _ _ hf
      · replace hf := Eq.mp (if_neg hc) hf
        refine p_sub (ls' := []) [] rfl ?_
        exact t_X11_form_88 h0   _ hf
def w_X11_form_60 (K : Int → Hh → Prop) (a0 : Int) (v1 v2 v3 : Int) (h : Hh) : Prop := w_X11_form_61 K  a0 v1 v2 v3 0 h
set_option maxRecDepth 100000 in
set_option maxHeartbeats 4000000 in
theorem t_X11_form_60 {G : Gx} {n0 : Int} {K : Int → Hh → Prop} {a0 : Int} (h0 : 0 ≤ a0)  (v1 v2 v3 : Int) (h : Hh) (hf : w_X11_form_60 K  a0 v1 v2 v3 h) : PW G M_X11_form rm_X11_form 0 0 [] n0 K 60 [(0, vr 11 a0 0), (1, vi v1), (2, vi v2), (3, vi v3)] [] [] 0 0 h := by
  unfold w_X11_form_60 at hf
  refine p_iconst dX11_form_60 (by decide) ?_
  exact t_X11_form_61 h0  _ _ _ _ _ hf
def w_X11_form_25 (K : Int → Hh → Prop) (a0 : Int) (v1 v2 : Int) (h : Hh) : Prop := w_X11_isNew a0 h (fun r3 h4 => if r3 ≠ 0 then (vb (h4 a0 5) fun z5 => w_X11_next a0 h4 (fun _ h6 => if v2 ≠ 0 then (w_X11_form_60 K  a0 v1 v2 z5 h6) else (w_X11_isSign a0 42 h6 (fun r17 h18 => if r17 = 0 then (w_X11_form_60 K  a0 v1 v2 z5 h18) else (w_X11_form_61 K  a0 v1 v2 z5 1 h18))))) else (K 0 h4))
set_option maxRecDepth 100000 in
set_option maxHeartbeats 4000000 in
theorem t_X11_form_25 {G : Gx} {n0 : Int} {K : Int → Hh → Prop} {a0 : Int} (h0 : 0 ≤ a0)  (v1 v2 : Int) (h : Hh) (hf : w_X11_form_25 K  a0 v1 v2 h) : PW G M_X11_form rm_X11_form 0 0 [] n0 K 25 [(0, vr 11 a0 0), (1, vi v1), (2, vi v2)] [] [] 0 0 h := by
  unfold w_X11_form_25 at hf
  refine p_aload_n dX11_form_25 rfl 0 rfl ?_
  refine p_callVi dX11_form_26 M_X11_isNew (Or.inr rfl) [] (t_X11_isNew _ _ _ h0 hf) ok_X11_isNew rfl (c := 11) (by decide) h0 rfl tb_1107 ⟨tb_1109, ts_77⟩ rfl (Nat.le_of_ble_eq_true rfl) ⟨rfl, rfl⟩ ⟨by decide, by decide⟩ ⟨by decide, by decide⟩ (fun r3 h4 hf => ?_)
  refine p_if_ne (tgt := 34) (q := r3 ≠ 0) dX11_form_29 (by decide) Iff.rfl (fun hc => ?_) (fun hc => ?_)
  · replace hf := Eq.mp (if_pos hc) hf
    refine p_aload_n dX11_form_34 rfl 0 rfl ?_
    refine p_get (c := 11) (vi (h4 a0 5)) dX11_form_35 5 tb_898 (by decide) (by decide) (Or.inl rfl) h0 rfl rfl ?_
    refine p_istore_n (ls' := [(3, vi (h4 a0 5)), (0, vr 11 a0 0), (1, vi v1), (2, vi v2)]) dX11_form_38 rfl (by decide) rfl ?_
    replace hf := vb_e hf
    generalize (h4 a0 5) = z5 at hf ⊢
    refine p_aload_n dX11_form_39 rfl 1 rfl ?_
    refine p_callVv dX11_form_40 M_X11_next rfl [] (t_X11_next _ _ _ h0 hf) ok_X11_next rfl (c := 11) (by decide) h0 rfl tb_1090 ⟨tb_1092, ts_73⟩ rfl (Nat.le_of_ble_eq_true rfl) ⟨rfl, rfl⟩ ⟨by decide, by decide⟩ ⟨by decide, by decide⟩ (fun _ h6 hf => ?_)
    refine p_iload_n dX11_form_43 rfl 3 rfl ?_
    refine p_if_ne (tgt := 60) (q := v2 ≠ 0) dX11_form_44 (by decide) Iff.rfl (fun hc => ?_) (fun hc => ?_)
    · replace hf := Eq.mp (if_pos hc) hf
      refine p_sub (ls' := [(0, vr 11 a0 0), (1, vi v1), (2, vi v2), (3, vi z5)]) [1, 2, 3, 0] rfl ?_
      exact t_X11_form_60 h0  _ _ _ _ hf
    · replace hf := Eq.mp (if_neg hc) hf
      refine p_aload_n dX11_form_47 rfl 1 rfl ?_
      refine p_bipush dX11_form_48 (by decide) (by decide) ?_
      refine p_callVi dX11_form_50 M_X11_isSign (Or.inr rfl) [vi 42] (t_X11_isSign _ _ _ _ h0 hf) ok_X11_isSign rfl (c := 11) (by decide) h0 rfl tb_1103 ⟨tb_1105, ts_76⟩ rfl (Nat.le_of_ble_eq_true rfl) ⟨rfl, rfl⟩ ⟨by decide, by decide⟩ ⟨by decide, by decide⟩ (fun r17 h18 hf => ?_)
      refine p_if_eq (tgt := 60) (q := r17 = 0) dX11_form_53 (by decide) Iff.rfl (fun hc => ?_) (fun hc => ?_)
      · replace hf := Eq.mp (if_pos hc) hf
        refine p_sub (ls' := [(0, vr 11 a0 0), (1, vi v1), (2, vi v2), (3, vi z5)]) [1, 2, 3, 0] rfl ?_
        exact t_X11_form_60 h0  _ _ _ _ hf
      · replace hf := Eq.mp (if_neg hc) hf
        refine p_iconst dX11_form_56 (by decide) ?_
        refine p_goto (tgt := 61) dX11_form_57 (by decide) ?_
        refine p_sub (ls' := [(0, vr 11 a0 0), (1, vi v1), (2, vi v2), (3, vi z5)]) [1, 2, 3, 0] rfl ?_
        exact t_X11_form_61 h0  _ _ _ _ _ hf
  · replace hf := Eq.mp (if_neg hc) hf
    refine p_iconst dX11_form_32 (by decide) ?_
    exact p_zret dX11_form_33 rfl (by decide) (by decide) (fun _ q => absurd q List.not_mem_nil) (Or.inl rfl) hf
def w_X11_form (a0 x1 : Int) (h : Hh) (K : Int → Hh → Prop) : Prop := if h a0 6 ≠ 5 then (w_X11_isSign a0 47 h (fun r1 h2 => if r1 = 0 then (w_X11_form_25 K  a0 x1 r1 h2) else (w_X11_next a0 h2 (fun _ h19 => w_X11_form_25 K  a0 x1 r1 h19)))) else (K 0 h)
set_option maxRecDepth 100000 in
set_option maxHeartbeats 4000000 in
theorem t_X11_form {G : Gx} (a0 x1 : Int) (h : Hh) (K : Int → Hh → Prop) (h0 : 0 ≤ a0) (hf : w_X11_form a0 x1 h K) : CT G M_X11_form rm_X11_form 0 0 [] [vr 11 a0 0, vi x1] h K := by
  unfold w_X11_form at hf
  refine CT.of (ls0 := [(0, vr 11 a0 0), (1, vi x1)]) (plainFor_of_name (by decide +kernel)) (by decide +kernel) (Nat.le_of_ble_eq_true rfl) rfl rfl ?_
  refine p_aload_n dX11_form_0 rfl 0 rfl ?_
  refine p_get (c := 11) (vi (h a0 6)) dX11_form_1 6 tb_899 (by decide) (by decide) (Or.inl rfl) h0 rfl rfl ?_
  refine p_iconst dX11_form_4 (by decide) ?_
  refine p_icmp_ne (tgt := 10) (q := h a0 6 ≠ 5) dX11_form_5 (by decide) Iff.rfl (fun hc => ?_) (fun hc => ?_)
  · replace hf := Eq.mp (if_pos hc) hf
    refine p_aload_n dX11_form_10 rfl 0 rfl ?_
    refine p_bipush dX11_form_11 (by decide) (by decide) ?_
    refine p_callVi dX11_form_13 M_X11_isSign (Or.inr rfl) [vi 47] (t_X11_isSign _ _ _ _ h0 hf) ok_X11_isSign rfl (c := 11) (by decide) h0 rfl tb_1103 ⟨tb_1105, ts_76⟩ rfl (Nat.le_of_ble_eq_true rfl) ⟨rfl, rfl⟩ ⟨by decide, by decide⟩ ⟨by decide, by decide⟩ (fun r1 h2 hf => ?_)
    refine p_istore_n (ls' := [(2, vi r1), (0, vr 11 a0 0), (1, vi x1)]) dX11_form_16 rfl (by decide) rfl ?_
    refine p_iload_n dX11_form_17 rfl 0 rfl ?_
    refine p_if_eq (tgt := 25) (q := r1 = 0) dX11_form_18 (by decide) Iff.rfl (fun hc => ?_) (fun hc => ?_)
    · replace hf := Eq.mp (if_pos hc) hf
      refine p_sub (ls' := [(0, vr 11 a0 0), (1, vi x1), (2, vi r1)]) [1, 2, 0] rfl ?_
      exact t_X11_form_25 h0  _ _ _ hf
    · replace hf := Eq.mp (if_neg hc) hf
      refine p_aload_n dX11_form_21 rfl 1 rfl ?_
      refine p_callVv dX11_form_22 M_X11_next rfl [] (t_X11_next _ _ _ h0 hf) ok_X11_next rfl (c := 11) (by decide) h0 rfl tb_1090 ⟨tb_1092, ts_73⟩ rfl (Nat.le_of_ble_eq_true rfl) ⟨rfl, rfl⟩ ⟨by decide, by decide⟩ ⟨by decide, by decide⟩ (fun _ h19 hf => ?_)
      refine p_sub (ls' := [(0, vr 11 a0 0), (1, vi x1), (2, vi r1)]) [1, 2, 0] rfl ?_
      exact t_X11_form_25 h0  _ _ _ hf
  · replace hf := Eq.mp (if_neg hc) hf
    refine p_iconst dX11_form_8 (by decide) ?_
    exact p_zret dX11_form_9 rfl (by decide) (by decide) (fun _ q => absurd q List.not_mem_nil) (Or.inl rfl) hf
theorem ok_X11_form : mOK M_X11_form 1 := ⟨tb_1102, tb_9, by decide +kernel⟩
abbrev M_X11_part : MD := (yX11_part, cX11_part, 2, some .boolean)
abbrev rm_X11_part : Room := { frames := 2, cells := 0, slots := 0, locals := 45 }
def w_X11_part_14 (K : Int → Hh → Prop) (a0 : Int) (s0 : Int) (h : Hh) : Prop := w_X11_next a0 h (fun _ h3 => if h3 a0 3 = 2 then (if h3 a0 5 ≤ 9999 then (hb (up h3 a0 10 (w32 ((h3 a0 10) + (w32 (s0 * (h3 a0 5)))))) fun h4 => w_X11_next a0 h4 (fun _ h5 => K 1 h5)) else (K 0 h3)) else (w_X11_form a0 s0 h3 (fun r6 h7 => (r6 = 0 ∨ r6 = 1) ∧ (K r6 h7))))
set_option maxRecDepth 100000 in
set_option maxHeartbeats 4000000 in
theorem t_X11_part_14 {G : Gx} {n0 : Int} {K : Int → Hh → Prop} {a0 : Int} (h0 : 0 ≤ a0)  (s0 : Int) (h : Hh) (hf : w_X11_part_14 K  a0 s0 h) : PW G M_X11_part rm_X11_part 0 0 [] n0 K 14 [(0, vr 11 a0 0)] [vi s0] [] 0 0 h := by
  unfold w_X11_part_14 at hf
  refine p_istore_n (ls' := [(1, vi s0), (0, vr 11 a0 0)]) dX11_part_14 rfl (by decide) rfl ?_
  refine p_aload_n dX11_part_15 rfl 1 rfl ?_
  refine p_callVv dX11_part_16 M_X11_next rfl [] (t_X11_next _ _ _ h0 hf) ok_X11_next rfl (c := 11) (by decide) h0 rfl tb_1090 ⟨tb_1092, ts_73⟩ rfl (Nat.le_of_ble_eq_true rfl) ⟨rfl, rfl⟩ ⟨by decide, by decide⟩ ⟨by decide, by decide⟩ (fun _ h3 hf => ?_)
  refine p_aload_n dX11_part_19 rfl 1 rfl ?_
  refine p_get (c := 11) (vi (h3 a0 3)) dX11_part_20 3 tb_896 (by decide) (by decide) (Or.inl rfl) h0 rfl rfl ?_
  refine p_iconst dX11_part_23 (by decide) ?_
  refine p_icmp_eq (tgt := 33) (q := h3 a0 3 = 2) dX11_part_24 (by decide) Iff.rfl (fun hc => ?_) (fun hc => ?_)
  · replace hf := Eq.mp (if_pos hc) hf
    refine p_aload_n dX11_part_33 rfl 1 rfl ?_
    refine p_get (c := 11) (vi (h3 a0 5)) dX11_part_34 5 tb_898 (by decide) (by decide) (Or.inl rfl) h0 rfl rfl ?_
    refine p_sipush dX11_part_37 (by decide) (by decide) ?_
    refine p_icmp_le (tgt := 45) (q := h3 a0 5 ≤ 9999) dX11_part_40 (by decide) Iff.rfl (fun hc => ?_) (fun hc => ?_)
    · replace hf := Eq.mp (if_pos hc) hf
      refine p_aload_n dX11_part_45 rfl 1 rfl ?_
      refine p_dup dX11_part_46 (fun _ q => by cases q) ?_
      refine p_get (c := 11) (vi (h3 a0 10)) dX11_part_47 10 tb_903 (by decide) (by decide) (Or.inl rfl) h0 rfl rfl ?_
      refine p_iload_n dX11_part_50 rfl 0 rfl ?_
      refine p_aload_n dX11_part_51 rfl 1 rfl ?_
      refine p_get (c := 11) (vi (h3 a0 5)) dX11_part_52 5 tb_898 (by decide) (by decide) (Or.inl rfl) h0 rfl rfl ?_
      refine p_imul dX11_part_55 ?_
      refine p_iadd dX11_part_56 ?_
      refine p_puti (c := 11) dX11_part_57 10 tb_903 (by decide) (by decide) (Or.inl rfl) h0 rfl rfl (fun _ => by decide) (up h3 a0 10 (w32 ((h3 a0 10) + (w32 (s0 * (h3 a0 5)))))) rfl ?_
      replace hf := hb_e hf
      generalize up h3 a0 10 (w32 ((h3 a0 10) + (w32 (s0 * (h3 a0 5))))) = h4 at hf ⊢
      refine p_aload_n dX11_part_60 rfl 1 rfl ?_
      refine p_callVv dX11_part_61 M_X11_next rfl [] (t_X11_next _ _ _ h0 hf) ok_X11_next rfl (c := 11) (by decide) h0 rfl tb_1090 ⟨tb_1092, ts_73⟩ rfl (Nat.le_of_ble_eq_true rfl) ⟨rfl, rfl⟩ ⟨by decide, by decide⟩ ⟨by decide, by decide⟩ (fun _ h5 hf => ?_)
      refine p_iconst dX11_part_64 (by decide) ?_
      exact p_zret dX11_part_65 rfl (by decide) (by decide) (fun _ q => absurd q List.not_mem_nil) (Or.inr rfl) hf
    · replace hf := Eq.mp (if_neg hc) hf
      refine p_iconst dX11_part_43 (by decide) ?_
      exact p_zret dX11_part_44 rfl (by decide) (by decide) (fun _ q => absurd q List.not_mem_nil) (Or.inl rfl) hf
  · replace hf := Eq.mp (if_neg hc) hf
    refine p_aload_n dX11_part_27 rfl 1 rfl ?_
    refine p_iload_n dX11_part_28 rfl 0 rfl ?_
    refine p_callVi dX11_part_29 M_X11_form (Or.inr rfl) [vi s0] (t_X11_form _ _ _ _ h0 hf) ok_X11_form rfl (c := 11) (by decide) h0 rfl tb_1099 ⟨tb_1101, ts_75⟩ rfl (Nat.le_of_ble_eq_true rfl) ⟨rfl, rfl⟩ ⟨by decide, by decide⟩ ⟨by decide, by decide⟩ (fun r6 h7 hf => ?_)
    obtain ⟨c8, hf⟩ := hf
    exact p_zret dX11_part_32 rfl (by decide) (by decide) (fun _ q => absurd q List.not_mem_nil) c8 hf
def w_X11_part (a0 : Int) (h : Hh) (K : Int → Hh → Prop) : Prop := w_X11_isSign a0 45 h (fun r1 h2 => if r1 = 0 then (w_X11_part_14 K  a0 1 h2) else (w_X11_part_14 K  a0 (-1) h2))
set_option maxRecDepth 100000 in
set_option maxHeartbeats 4000000 in
theorem t_X11_part {G : Gx} (a0 : Int) (h : Hh) (K : Int → Hh → Prop) (h0 : 0 ≤ a0) (hf : w_X11_part a0 h K) : CT G M_X11_part rm_X11_part 0 0 [] [vr 11 a0 0] h K := by
  unfold w_X11_part at hf
  refine CT.of (ls0 := [(0, vr 11 a0 0)]) (plainFor_of_name (by decide +kernel)) (by decide +kernel) (Nat.le_of_ble_eq_true rfl) rfl rfl ?_
  refine p_aload_n dX11_part_0 rfl 0 rfl ?_
  refine p_bipush dX11_part_1 (by decide) (by decide) ?_
  refine p_callVi dX11_part_3 M_X11_isSign (Or.inr rfl) [vi 45] (t_X11_isSign _ _ _ _ h0 hf) ok_X11_isSign rfl (c := 11) (by decide) h0 rfl tb_1103 ⟨tb_1105, ts_76⟩ rfl (Nat.le_of_ble_eq_true rfl) ⟨rfl, rfl⟩ ⟨by decide, by decide⟩ ⟨by decide, by decide⟩ (fun r1 h2 hf => ?_)
  refine p_if_eq (tgt := 13) (q := r1 = 0) dX11_part_6 (by decide) Iff.rfl (fun hc => ?_) (fun hc => ?_)
  · replace hf := Eq.mp (if_pos hc) hf
    refine p_iconst dX11_part_13 (by decide) ?_
    exact t_X11_part_14 h0  _ _ hf
  · replace hf := Eq.mp (if_neg hc) hf
    refine p_iconst dX11_part_9 (by decide) ?_
    refine p_goto (tgt := 14) dX11_part_10 (by decide) ?_
    exact t_X11_part_14 h0  _ _ hf
theorem ok_X11_part : mOK M_X11_part 0 := ⟨tb_1114, tb_9, by decide +kernel⟩
abbrev M_X11_whole : MD := (yX11_whole, cX11_whole, 2, some .boolean)
abbrev rm_X11_whole : Room := { frames := 3, cells := 0, slots := 0, locals := 66 }
def w_X11_whole_17 (K : Int → Hh → Prop) (a0 : Int) (h : Hh) : Prop := K 0 h
set_option maxRecDepth 100000 in
set_option maxHeartbeats 4000000 in
theorem t_X11_whole_17 {G : Gx} {n0 : Int} {K : Int → Hh → Prop} {a0 : Int} (h0 : 0 ≤ a0)  (h : Hh) (hf : w_X11_whole_17 K  a0  h) : PW G M_X11_whole rm_X11_whole 0 0 [] n0 K 17 [] [] [] 0 0 h := by
  unfold w_X11_whole_17 at hf
  refine p_iconst dX11_whole_17 (by decide) ?_
  exact p_zret dX11_whole_18 rfl (by decide) (by decide) (fun _ q => absurd q List.not_mem_nil) (Or.inl rfl) hf
def w_X11_whole_74 (K : Int → Hh → Prop) (B : Hh → Prop) (X81 : Hh → Prop) (X83 : Hh → Prop) (a0 : Int) (h : Hh) : Prop := w_X11_part a0 h (fun r13 h14 => if r13 ≠ 0 then (B  h14) else (X81  h14))
set_option maxRecDepth 100000 in
set_option maxHeartbeats 4000000 in
theorem t_X11_whole_74 {G : Gx} {n0 : Int} {K : Int → Hh → Prop} {B : Hh → Prop} {X81 : Hh → Prop} {X83 : Hh → Prop} {a0 : Int} (h0 : 0 ≤ a0) (hB : ∀ (h : Hh), B  h → PW G M_X11_whole rm_X11_whole 0 0 [] n0 K 56 [(0, vr 11 a0 0)] [] [] 0 0 h) (hX81 : ∀ (h : Hh), X81  h → PW G M_X11_whole rm_X11_whole 0 0 [] n0 K 81 [] [] [] 0 0 h) (hX83 : ∀ (h : Hh), X83  h → PW G M_X11_whole rm_X11_whole 0 0 [] n0 K 83 [(0, vr 11 a0 0)] [] [] 0 0 h)  (h : Hh) (hf : w_X11_whole_74 K B X81 X83 a0  h) : PW G M_X11_whole rm_X11_whole 0 0 [] n0 K 74 [(0, vr 11 a0 0)] [] [] 0 0 h := by
  unfold w_X11_whole_74 at hf
  refine p_aload_n dX11_whole_74 rfl 0 rfl ?_
  refine p_callVi dX11_whole_75 M_X11_part (Or.inr rfl) [] (t_X11_part _ _ _ h0 hf) ok_X11_part rfl (c := 11) (by decide) h0 rfl tb_1111 ⟨tb_1113, ts_78⟩ rfl (Nat.le_of_ble_eq_true rfl) ⟨rfl, rfl⟩ ⟨by decide, by decide⟩ ⟨by decide, by decide⟩ (fun r13 h14 hf => ?_)
  refine p_if_ne (tgt := 56) (q := r13 ≠ 0) dX11_whole_78 (by decide) Iff.rfl (fun hc => ?_) (fun hc => ?_)
  · replace hf := Eq.mp (if_pos hc) hf
    exact hB  _ hf
  · replace hf := Eq.mp (if_neg hc) hf
    refine p_sub (ls' := []) [] rfl ?_
    exact hX81  _ hf
def w_X11_whole_56 (K : Int → Hh → Prop) (X81 : Hh → Prop) (X83 : Hh → Prop) (a0 : Int) : Nat → Hh → Prop
  | 0, _ => False
  | n + 1, h => w_X11_isSign a0 43 h (fun r11 h12 => if r11 ≠ 0 then (w_X11_whole_74 K (w_X11_whole_56 K X81 X83 a0 n) X81 X83 a0  h12) else (w_X11_isSign a0 45 h12 (fun r15 h16 => if r15 = 0 then (X83  h16) else (w_X11_whole_74 K (w_X11_whole_56 K X81 X83 a0 n) X81 X83 a0  h16))))
set_option maxRecDepth 100000 in
set_option maxHeartbeats 4000000 in
theorem t_X11_whole_56 {G : Gx} {n0 : Int} {K : Int → Hh → Prop} {X81 : Hh → Prop} {X83 : Hh → Prop} {a0 : Int} (h0 : 0 ≤ a0) (hX81 : ∀ (h : Hh), X81  h → PW G M_X11_whole rm_X11_whole 0 0 [] n0 K 81 [] [] [] 0 0 h) (hX83 : ∀ (h : Hh), X83  h → PW G M_X11_whole rm_X11_whole 0 0 [] n0 K 83 [(0, vr 11 a0 0)] [] [] 0 0 h) : ∀ (n : Nat) (h : Hh), w_X11_whole_56 K X81 X83 a0 n  h → PW G M_X11_whole rm_X11_whole 0 0 [] n0 K 56 [(0, vr 11 a0 0)] [] [] 0 0 h := by
  intro n
  induction n with
  | zero =>
    intro h hf
    rw [w_X11_whole_56] at hf
    exact hf.elim
  | succ n ih =>
    intro h hf
    rw [w_X11_whole_56] at hf
    refine p_aload_n dX11_whole_56 rfl 0 rfl ?_
    refine p_bipush dX11_whole_57 (by decide) (by decide) ?_
    refine p_callVi dX11_whole_59 M_X11_isSign (Or.inr rfl) [vi 43] (t_X11_isSign _ _ _ _ h0 hf) ok_X11_isSign rfl (c := 11) (by decide) h0 rfl tb_1103 ⟨tb_1105, ts_76⟩ rfl (Nat.le_of_ble_eq_true rfl) ⟨rfl, rfl⟩ ⟨by decide, by decide⟩ ⟨by decide, by decide⟩ (fun r11 h12 hf => ?_)
    refine p_if_ne (tgt := 74) (q := r11 ≠ 0) dX11_whole_62 (by decide) Iff.rfl (fun hc => ?_) (fun hc => ?_)
    · replace hf := Eq.mp (if_pos hc) hf
      exact t_X11_whole_74 h0 ih hX81 hX83  _ hf
    · replace hf := Eq.mp (if_neg hc) hf
      refine p_aload_n dX11_whole_65 rfl 0 rfl ?_
      refine p_bipush dX11_whole_66 (by decide) (by decide) ?_
      refine p_callVi dX11_whole_68 M_X11_isSign (Or.inr rfl) [vi 45] (t_X11_isSign _ _ _ _ h0 hf) ok_X11_isSign rfl (c := 11) (by decide) h0 rfl tb_1103 ⟨tb_1105, ts_76⟩ rfl (Nat.le_of_ble_eq_true rfl) ⟨rfl, rfl⟩ ⟨by decide, by decide⟩ ⟨by decide, by decide⟩ (fun r15 h16 hf => ?_)
      refine p_if_eq (tgt := 83) (q := r15 = 0) dX11_whole_71 (by decide) Iff.rfl (fun hc => ?_) (fun hc => ?_)
      · replace hf := Eq.mp (if_pos hc) hf
        exact hX83  _ hf
      · replace hf := Eq.mp (if_neg hc) hf
        exact t_X11_whole_74 h0 ih hX81 hX83  _ hf
def w_X11_whole_100 (K : Int → Hh → Prop) (a0 : Int) (h : Hh) : Prop := K 0 h
set_option maxRecDepth 100000 in
set_option maxHeartbeats 4000000 in
theorem t_X11_whole_100 {G : Gx} {n0 : Int} {K : Int → Hh → Prop} {a0 : Int} (h0 : 0 ≤ a0)  (h : Hh) (hf : w_X11_whole_100 K  a0  h) : PW G M_X11_whole rm_X11_whole 0 0 [] n0 K 100 [] [] [] 0 0 h := by
  unfold w_X11_whole_100 at hf
  refine p_iconst dX11_whole_100 (by decide) ?_
  exact p_zret dX11_whole_101 rfl (by decide) (by decide) (fun _ q => absurd q List.not_mem_nil) (Or.inl rfl) hf
def w_X11_whole_118 (K : Int → Hh → Prop) (a0 : Int) (s0 : Int) (h : Hh) : Prop := (s0 = 0 ∨ s0 = 1) ∧ (K s0 h)
set_option maxRecDepth 100000 in
set_option maxHeartbeats 4000000 in
theorem t_X11_whole_118 {G : Gx} {n0 : Int} {K : Int → Hh → Prop} {a0 : Int} (h0 : 0 ≤ a0)  (s0 : Int) (h : Hh) (hf : w_X11_whole_118 K  a0 s0 h) : PW G M_X11_whole rm_X11_whole 0 0 [] n0 K 118 [] [vi s0] [] 0 0 h := by
  unfold w_X11_whole_118 at hf
  obtain ⟨c22, hf⟩ := hf
  exact p_zret dX11_whole_118 rfl (by decide) (by decide) (fun _ q => absurd q List.not_mem_nil) c22 hf
def w_X11_whole_48 (K : Int → Hh → Prop) (a0 : Int) (s0 s1 : Int) (h : Hh) : Prop := 0 ≤ s1 ∧ (w_X11_form s1 s0 h (fun r9 h10 => if r9 ≠ 0 then (w_X11_whole_56 K (fun h17 => K 0 h17) (fun h18 => w_X11_isSign a0 59 h18 (fun r19 h20 => if r19 = 0 then (w_X11_whole_100 K  a0  h20) else (if h20 a0 6 ≥ 3 then (w_X11_next a0 h20 (fun _ h21 => if h21 a0 3 ≠ 0 then (w_X11_whole_118 K  a0 0 h21) else (w_X11_whole_118 K  a0 1 h21))) else (w_X11_whole_100 K  a0  h20)))) a0 NF  h10) else (K 0 h10)))
set_option maxRecDepth 100000 in
set_option maxHeartbeats 4000000 in
theorem t_X11_whole_48 {G : Gx} {n0 : Int} {K : Int → Hh → Prop} {a0 : Int} (h0 : 0 ≤ a0)  (s0 s1 : Int) (h : Hh) (hf : w_X11_whole_48 K  a0 s0 s1 h) : PW G M_X11_whole rm_X11_whole 0 0 [] n0 K 48 [(0, vr 11 a0 0)] [vi s0, vr 11 s1 0] [] 0 0 h := by
  unfold w_X11_whole_48 at hf
  obtain ⟨c8, hf⟩ := hf
  refine p_callVi dX11_whole_48 M_X11_form (Or.inr rfl) [vi s0] (t_X11_form _ _ _ _ c8 hf) ok_X11_form rfl (c := 11) (by decide) c8 rfl tb_1099 ⟨tb_1101, ts_75⟩ rfl (Nat.le_of_ble_eq_true rfl) ⟨rfl, rfl⟩ ⟨by decide, by decide⟩ ⟨by decide, by decide⟩ (fun r9 h10 hf => ?_)
  refine p_if_ne (tgt := 56) (q := r9 ≠ 0) dX11_whole_51 (by decide) Iff.rfl (fun hc => ?_) (fun hc => ?_)
  · replace hf := Eq.mp (if_pos hc) hf
    refine t_X11_whole_56 h0 ?_ ?_ NF  _ hf
    · intro h17 hf
      refine p_iconst dX11_whole_81 (by decide) ?_
      exact p_zret dX11_whole_82 rfl (by decide) (by decide) (fun _ q => absurd q List.not_mem_nil) (Or.inl rfl) hf
    · intro h18 hf
      refine p_aload_n dX11_whole_83 rfl 0 rfl ?_
      refine p_bipush dX11_whole_84 (by decide) (by decide) ?_
      refine p_callVi dX11_whole_86 M_X11_isSign (Or.inr rfl) [vi 59] (t_X11_isSign _ _ _ _ h0 hf) ok_X11_isSign rfl (c := 11) (by decide) h0 rfl tb_1103 ⟨tb_1105, ts_76⟩ rfl (Nat.le_of_ble_eq_true rfl) ⟨rfl, rfl⟩ ⟨by decide, by decide⟩ ⟨by decide, by decide⟩ (fun r19 h20 hf => ?_)
      refine p_if_eq (tgt := 100) (q := r19 = 0) dX11_whole_89 (by decide) Iff.rfl (fun hc => ?_) (fun hc => ?_)
      · replace hf := Eq.mp (if_pos hc) hf
        refine p_sub (ls' := []) [] rfl ?_
        exact t_X11_whole_100 h0   _ hf
      · replace hf := Eq.mp (if_neg hc) hf
        refine p_aload_n dX11_whole_92 rfl 0 rfl ?_
        refine p_get (c := 11) (vi (h20 a0 6)) dX11_whole_93 6 tb_899 (by decide) (by decide) (Or.inl rfl) h0 rfl rfl ?_
        refine p_iconst dX11_whole_96 (by decide) ?_
        refine p_icmp_ge (tgt := 102) (q := h20 a0 6 ≥ 3) dX11_whole_97 (by decide) Iff.rfl (fun hc => ?_) (fun hc => ?_)
        · replace hf := Eq.mp (if_pos hc) hf
          refine p_aload_n dX11_whole_102 rfl 0 rfl ?_
          refine p_callVv dX11_whole_103 M_X11_next rfl [] (t_X11_next _ _ _ h0 hf) ok_X11_next rfl (c := 11) (by decide) h0 rfl tb_1090 ⟨tb_1092, ts_73⟩ rfl (Nat.le_of_ble_eq_true rfl) ⟨rfl, rfl⟩ ⟨by decide, by decide⟩ ⟨by decide, by decide⟩ (fun _ h21 hf => ?_)
          refine p_aload_n dX11_whole_106 rfl 0 rfl ?_
          refine p_get (c := 11) (vi (h21 a0 3)) dX11_whole_107 3 tb_896 (by decide) (by decide) (Or.inl rfl) h0 rfl rfl ?_
          refine p_if_ne (tgt := 117) (q := h21 a0 3 ≠ 0) dX11_whole_110 (by decide) Iff.rfl (fun hc => ?_) (fun hc => ?_)
          · replace hf := Eq.mp (if_pos hc) hf
            refine p_iconst dX11_whole_117 (by decide) ?_
            refine p_sub (ls' := []) [] rfl ?_
            exact t_X11_whole_118 h0  _ _ hf
          · replace hf := Eq.mp (if_neg hc) hf
            refine p_iconst dX11_whole_113 (by decide) ?_
            refine p_goto (tgt := 118) dX11_whole_114 (by decide) ?_
            refine p_sub (ls' := []) [] rfl ?_
            exact t_X11_whole_118 h0  _ _ hf
        · replace hf := Eq.mp (if_neg hc) hf
          refine p_sub (ls' := []) [] rfl ?_
          exact t_X11_whole_100 h0   _ hf
  · replace hf := Eq.mp (if_neg hc) hf
    refine p_iconst dX11_whole_54 (by decide) ?_
    exact p_zret dX11_whole_55 rfl (by decide) (by decide) (fun _ q => absurd q List.not_mem_nil) (Or.inl rfl) hf
def w_X11_whole_38 (K : Int → Hh → Prop) (a0 : Int) (v1 : Int) (h : Hh) : Prop := if v1 = 0 then (w_X11_whole_48 K  a0 1 a0 h) else (w_X11_whole_48 K  a0 (-1) a0 h)
set_option maxRecDepth 100000 in
set_option maxHeartbeats 4000000 in
theorem t_X11_whole_38 {G : Gx} {n0 : Int} {K : Int → Hh → Prop} {a0 : Int} (h0 : 0 ≤ a0)  (v1 : Int) (h : Hh) (hf : w_X11_whole_38 K  a0 v1 h) : PW G M_X11_whole rm_X11_whole 0 0 [] n0 K 38 [(0, vr 11 a0 0), (1, vi v1)] [] [] 0 0 h := by
  unfold w_X11_whole_38 at hf
  refine p_aload_n dX11_whole_38 rfl 0 rfl ?_
  refine p_iload_n dX11_whole_39 rfl 1 rfl ?_
  refine p_if_eq (tgt := 47) (q := v1 = 0) dX11_whole_40 (by decide) Iff.rfl (fun hc => ?_) (fun hc => ?_)
  · replace hf := Eq.mp (if_pos hc) hf
    refine p_iconst dX11_whole_47 (by decide) ?_
    refine p_sub (ls' := [(0, vr 11 a0 0)]) [0] rfl ?_
    exact t_X11_whole_48 h0  _ _ _ hf
  · replace hf := Eq.mp (if_neg hc) hf
    refine p_iconst dX11_whole_43 (by decide) ?_
    refine p_goto (tgt := 48) dX11_whole_44 (by decide) ?_
    refine p_sub (ls' := [(0, vr 11 a0 0)]) [0] rfl ?_
    exact t_X11_whole_48 h0  _ _ _ hf
def w_X11_whole (a0 : Int) (h : Hh) (K : Int → Hh → Prop) : Prop := w_X11_form a0 1 h (fun r1 h2 => if r1 = 0 then (w_X11_whole_17 K  a0  h2) else (w_X11_isSign a0 61 h2 (fun r3 h4 => if r3 ≠ 0 then (w_X11_next a0 h4 (fun _ h5 => w_X11_isSign a0 45 h5 (fun r6 h7 => if r6 = 0 then (w_X11_whole_38 K  a0 r6 h7) else (w_X11_next a0 h7 (fun _ h23 => w_X11_whole_38 K  a0 r6 h23))))) else (w_X11_whole_17 K  a0  h4))))
set_option maxRecDepth 100000 in
set_option maxHeartbeats 4000000 in
theorem t_X11_whole {G : Gx} (a0 : Int) (h : Hh) (K : Int → Hh → Prop) (h0 : 0 ≤ a0) (hf : w_X11_whole a0 h K) : CT G M_X11_whole rm_X11_whole 0 0 [] [vr 11 a0 0] h K := by
  unfold w_X11_whole at hf
  refine CT.of (ls0 := [(0, vr 11 a0 0)]) (plainFor_of_name (by decide +kernel)) (by decide +kernel) (Nat.le_of_ble_eq_true rfl) rfl rfl ?_
  refine p_aload_n dX11_whole_0 rfl 0 rfl ?_
  refine p_iconst dX11_whole_1 (by decide) ?_
  refine p_callVi dX11_whole_2 M_X11_form (Or.inr rfl) [vi 1] (t_X11_form _ _ _ _ h0 hf) ok_X11_form rfl (c := 11) (by decide) h0 rfl tb_1099 ⟨tb_1101, ts_75⟩ rfl (Nat.le_of_ble_eq_true rfl) ⟨rfl, rfl⟩ ⟨by decide, by decide⟩ ⟨by decide, by decide⟩ (fun r1 h2 hf => ?_)
  refine p_if_eq (tgt := 17) (q := r1 = 0) dX11_whole_5 (by decide) Iff.rfl (fun hc => ?_) (fun hc => ?_)
  · replace hf := Eq.mp (if_pos hc) hf
    refine p_sub (ls' := []) [] rfl ?_
    exact t_X11_whole_17 h0   _ hf
  · replace hf := Eq.mp (if_neg hc) hf
    refine p_aload_n dX11_whole_8 rfl 0 rfl ?_
    refine p_bipush dX11_whole_9 (by decide) (by decide) ?_
    refine p_callVi dX11_whole_11 M_X11_isSign (Or.inr rfl) [vi 61] (t_X11_isSign _ _ _ _ h0 hf) ok_X11_isSign rfl (c := 11) (by decide) h0 rfl tb_1103 ⟨tb_1105, ts_76⟩ rfl (Nat.le_of_ble_eq_true rfl) ⟨rfl, rfl⟩ ⟨by decide, by decide⟩ ⟨by decide, by decide⟩ (fun r3 h4 hf => ?_)
    refine p_if_ne (tgt := 19) (q := r3 ≠ 0) dX11_whole_14 (by decide) Iff.rfl (fun hc => ?_) (fun hc => ?_)
    · replace hf := Eq.mp (if_pos hc) hf
      refine p_aload_n dX11_whole_19 rfl 0 rfl ?_
      refine p_callVv dX11_whole_20 M_X11_next rfl [] (t_X11_next _ _ _ h0 hf) ok_X11_next rfl (c := 11) (by decide) h0 rfl tb_1090 ⟨tb_1092, ts_73⟩ rfl (Nat.le_of_ble_eq_true rfl) ⟨rfl, rfl⟩ ⟨by decide, by decide⟩ ⟨by decide, by decide⟩ (fun _ h5 hf => ?_)
      refine p_aload_n dX11_whole_23 rfl 0 rfl ?_
      refine p_bipush dX11_whole_24 (by decide) (by decide) ?_
      refine p_callVi dX11_whole_26 M_X11_isSign (Or.inr rfl) [vi 45] (t_X11_isSign _ _ _ _ h0 hf) ok_X11_isSign rfl (c := 11) (by decide) h0 rfl tb_1103 ⟨tb_1105, ts_76⟩ rfl (Nat.le_of_ble_eq_true rfl) ⟨rfl, rfl⟩ ⟨by decide, by decide⟩ ⟨by decide, by decide⟩ (fun r6 h7 hf => ?_)
      refine p_istore_n (ls' := [(1, vi r6), (0, vr 11 a0 0)]) dX11_whole_29 rfl (by decide) rfl ?_
      refine p_iload_n dX11_whole_30 rfl 0 rfl ?_
      refine p_if_eq (tgt := 38) (q := r6 = 0) dX11_whole_31 (by decide) Iff.rfl (fun hc => ?_) (fun hc => ?_)
      · replace hf := Eq.mp (if_pos hc) hf
        refine p_sub (ls' := [(0, vr 11 a0 0), (1, vi r6)]) [1, 0] rfl ?_
        exact t_X11_whole_38 h0  _ _ hf
      · replace hf := Eq.mp (if_neg hc) hf
        refine p_aload_n dX11_whole_34 rfl 1 rfl ?_
        refine p_callVv dX11_whole_35 M_X11_next rfl [] (t_X11_next _ _ _ h0 hf) ok_X11_next rfl (c := 11) (by decide) h0 rfl tb_1090 ⟨tb_1092, ts_73⟩ rfl (Nat.le_of_ble_eq_true rfl) ⟨rfl, rfl⟩ ⟨by decide, by decide⟩ ⟨by decide, by decide⟩ (fun _ h23 hf => ?_)
        refine p_sub (ls' := [(0, vr 11 a0 0), (1, vi r6)]) [1, 0] rfl ?_
        exact t_X11_whole_38 h0  _ _ hf
    · replace hf := Eq.mp (if_neg hc) hf
      refine p_sub (ls' := []) [] rfl ?_
      exact t_X11_whole_17 h0   _ hf
theorem ok_X11_whole : mOK M_X11_whole 0 := ⟨tb_1098, tb_9, by decide +kernel⟩
