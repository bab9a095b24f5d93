abbrev M_X10_habit : MD := (yX10_habit, cX10_habit, 2, some .int)
abbrev rm_X10_habit : Room := { frames := 6, cells := 0, slots := 0, locals := 144 }
def w_X10_habit (a0 x1 : Int) (h : Hh) (K : Int → Hh → Prop) : Prop := w_X10_isReader x1 h (fun r1 h2 => if r1 ≠ 0 then (w_X10_refreshDues a0 h2 (fun _ h3 => w_X6_habitOf (a0 + 15) x1 h3 (fun r4 h5 => K r4 h5))) else (K (-2147483648) h2))
set_option maxRecDepth 100000 in
set_option maxHeartbeats 4000000 in
theorem t_X10_habit {G : Gx} (a0 x1 : Int) (h : Hh) (K : Int → Hh → Prop) (h0 : 0 ≤ a0) (hf : w_X10_habit a0 x1 h K) : CT G M_X10_habit rm_X10_habit 0 0 [] [vr 10 a0 0, vi x1] h K := by
  unfold w_X10_habit at hf
  refine CT.of (ls0 := [(0, vr 10 a0 0), (1, vi x1)]) (plainFor_of_name (by decide +kernel)) (by decide +kernel) (Nat.le_of_ble_eq_true rfl) rfl rfl ?_
  refine p_iload_n dX10_habit_0 rfl 1 rfl ?_
  refine p_callSi dX10_habit_1 M_X10_isReader (Or.inr rfl) [vi x1] (t_X10_isReader _ _ _ hf) ok_X10_isReader rfl tb_787 tb_788 rfl (Nat.le_of_ble_eq_true rfl) ⟨rfl, rfl⟩ ⟨by decide, by decide⟩ ⟨by decide, by decide⟩ (fun r1 h2 hf => ?_)
  refine p_if_ne (tgt := 10) (q := r1 ≠ 0) dX10_habit_4 (by decide) Iff.rfl (fun hc => ?_) (fun hc => ?_)
  · replace hf := Eq.mp (if_pos hc) hf
    refine p_aload_n dX10_habit_10 rfl 0 rfl ?_
    refine p_callVv dX10_habit_11 M_X10_refreshDues rfl [] (t_X10_refreshDues _ _ _ h0 hf) ok_X10_refreshDues rfl (c := 10) (by decide) h0 rfl tb_810 ⟨tb_812, ts_60⟩ rfl (Nat.le_of_ble_eq_true rfl) ⟨rfl, rfl⟩ ⟨by decide, by decide⟩ ⟨by decide, by decide⟩ (fun _ h3 hf => ?_)
    refine p_aload_n dX10_habit_14 rfl 0 rfl ?_
    refine p_lay (c := 10) (tq := 6) (n := 0) dX10_habit_15 12 15 tb_239 (by decide) (by decide) h0 (by decide) (by decide) (fun _ => rfl) (vr 6 (a0 + 15) 0) rfl ?_
    refine p_iload_n dX10_habit_18 rfl 1 rfl ?_
    refine p_callVNi dX10_habit_19 M_X6_habitOf (Or.inl rfl) [vi x1] (t_X6_habitOf _ _ _ _ (nnk h0 (by decide)) hf) ok_X6_habitOf rfl (c := 6) (by decide) (nnk h0 (by decide)) rfl tb_833 ⟨tb_821, ts_62⟩ rfl (Nat.le_of_ble_eq_true rfl) ⟨rfl, rfl⟩ ⟨by decide, by decide⟩ ⟨by decide, by decide⟩ (fun r4 h5 hf => ?_)
    exact p_iret dX10_habit_22 rfl (by decide) (by decide) (fun _ h => absurd h List.not_mem_nil) hf
  · replace hf := Eq.mp (if_neg hc) hf
    refine p_ldc (z := (-2147483648)) dX10_habit_7 tb_389 (by decide) ?_
    exact p_iret dX10_habit_9 rfl (by decide) (by decide) (fun _ h => absurd h List.not_mem_nil) hf
theorem ok_X10_habit : mOK M_X10_habit 1 := ⟨tb_832, tb_1, by decide +kernel⟩
abbrev M_X10_sortReports : MD := (yX10_sortReports, cX10_sortReports, 4, none)
abbrev rm_X10_sortReports : Room := { frames := 3, cells := 0, slots := 0, locals := 69 }
def w_X10_sortReports_75 (K : Int → Hh → Prop) (B : Int → Int → Int → Hh → Prop) (a0 : Int) (v1 v2 v3 : Int) (h : Hh) : Prop := vb (w32 (v3 + 1)) fun z4 => B v1 v2 z4 h
set_option maxRecDepth 100000 in
set_option maxHeartbeats 4000000 in
theorem t_X10_sortReports_75 {G : Gx} {n0 : Int} {K : Int → Hh → Prop} {B : Int → Int → Int → Hh → Prop} {a0 : Int} (h0 : 0 ≤ a0) (hB : ∀ (v1 v2 v3 : Int) (h : Hh), B v1 v2 v3 h → PW G M_X10_sortReports rm_X10_sortReports 0 0 [] n0 K 9 [(0, vr 10 a0 0), (1, vr 0 v1 0), (2, vi v2), (3, vi v3)] [] [] 0 0 h)  (v1 v2 v3 : Int) (h : Hh) (hf : w_X10_sortReports_75 K B a0 v1 v2 v3 h) : PW G M_X10_sortReports rm_X10_sortReports 0 0 [] n0 K 75 [(0, vr 10 a0 0), (1, vr 0 v1 0), (2, vi v2), (3, vi v3)] [] [] 0 0 h := by
  unfold w_X10_sortReports_75 at hf
  refine p_iinc (ls' := [(3, vi (w32 (v3 + 1))), (0, vr 10 a0 0), (1, vr 0 v1 0), (2, vi v2)]) dX10_sortReports_75 3 rfl (by decide) rfl ?_
  replace hf := vb_e hf
  generalize w32 (v3 + 1) = z4 at hf ⊢
  refine p_goto (tgt := 9) dX10_sortReports_78 (by decide) ?_
  refine p_sub (ls' := [(0, vr 10 a0 0), (1, vr 0 v1 0), (2, vi v2), (3, vi z4)]) [1, 2, 3, 0] rfl ?_
  exact hB _ _ _ _ hf
def w_X10_sortReports_9 (K : Int → Hh → Prop) (a0 : Int) : Nat → Int → Int → Int → Hh → Prop
  | 0, _, _, _, _ => False
  | n + 1, v1, v2, v3, h => if v3 ≥ h (a0 + 15) 7 then (K 0 h) else (((0 : Int) ≤ v3 ∧ (v3 : Int) < 60) ∧ (0 ≤ v1 ∧ (if h (a0 + 15 + 2) v3 ≠ h v1 1 then (w_X10_sortReports_75 K (w_X10_sortReports_9 K  a0 n) a0 v1 v2 v3 h) else (if h (a0 + 15 + 6) v3 = (-1) then (w_X10_sortReports_75 K (w_X10_sortReports_9 K  a0 n) a0 v1 v2 v3 h) else (w_X6_isBad (a0 + 15) v3 v2 h (fun r5 h6 => w_X2_add (a0 + 28) v1 (h (a0 + 15 + 3) v3) r5 h6 (fun _ h7 => w_X10_sortReports_75 K (w_X10_sortReports_9 K  a0 n) a0 v1 v2 v3 h7)))))))
set_option maxRecDepth 100000 in
set_option maxHeartbeats 4000000 in
theorem t_X10_sortReports_9 {G : Gx} {n0 : Int} {K : Int → Hh → Prop} {a0 : Int} (h0 : 0 ≤ a0) : ∀ (n : Nat) (v1 v2 v3 : Int) (h : Hh), w_X10_sortReports_9 K  a0 n v1 v2 v3 h → PW G M_X10_sortReports rm_X10_sortReports 0 0 [] n0 K 9 [(0, vr 10 a0 0), (1, vr 0 v1 0), (2, vi v2), (3, vi v3)] [] [] 0 0 h := by
  intro n
  induction n with
  | zero =>
    intro v1 v2 v3 h hf
    rw [w_X10_sortReports_9] at hf
    exact hf.elim
  | succ n ih =>
    intro v1 v2 v3 h hf
    rw [w_X10_sortReports_9] at hf
    refine p_iload_n dX10_sortReports_9 rfl 3 rfl ?_
    refine p_aload_n dX10_sortReports_10 rfl 0 rfl ?_
    refine p_lay (c := 10) (tq := 6) (n := 0) dX10_sortReports_11 12 15 tb_239 (by decide) (by decide) h0 (by decide) (by decide) (fun _ => rfl) (vr 6 (a0 + 15) 0) rfl ?_
    refine p_getN (c := 6) (vi (h (a0 + 15) 7)) dX10_sortReports_14 7 tb_124 (by decide) (by decide) (Or.inl rfl) (nnk h0 (by decide)) rfl rfl ?_
    refine p_icmp_ge (tgt := 81) (q := v3 ≥ h (a0 + 15) 7) dX10_sortReports_17 (by decide) Iff.rfl (fun hc => ?_) (fun hc => ?_)
    · replace hf := Eq.mp (if_pos hc) hf
      exact p_vret dX10_sortReports_81 rfl (by decide) (by decide) (fun _ h => absurd h List.not_mem_nil) hf
    · replace hf := Eq.mp (if_neg hc) hf
      refine p_aload_n dX10_sortReports_20 rfl 0 rfl ?_
      refine p_lay (c := 10) (tq := 6) (n := 0) dX10_sortReports_21 12 15 tb_239 (by decide) (by decide) h0 (by decide) (by decide) (fun _ => rfl) (vr 6 (a0 + 15) 0) rfl ?_
      refine p_layN (c := 6) (tq := 100) (n := 60) dX10_sortReports_24 1 2 tb_114 (by decide) (by decide) (nnk h0 (by decide)) (by decide) (by decide) (fun _ => rfl) (vr 100 (a0 + 15 + 2) 60) rfl ?_
      refine p_iload_n dX10_sortReports_27 rfl 3 rfl ?_
      obtain ⟨c2, hf⟩ := hf
      refine p_iald dX10_sortReports_28 (nnk (nnk h0 (by decide)) (by decide)) c2 ?_
      refine p_aload_n dX10_sortReports_29 rfl 1 rfl ?_
      obtain ⟨c3, hf⟩ := hf
      refine p_getN (c := 0) (vi (h v1 1)) dX10_sortReports_30 1 tb_493 (by decide) (by decide) (Or.inl rfl) c3 rfl rfl ?_
      refine p_icmp_ne (tgt := 75) (q := h (a0 + 15 + 2) v3 ≠ h v1 1) dX10_sortReports_33 (by decide) Iff.rfl (fun hc => ?_) (fun hc => ?_)
      · replace hf := Eq.mp (if_pos hc) hf
        exact t_X10_sortReports_75 h0 ih _ _ _ _ hf
      · replace hf := Eq.mp (if_neg hc) hf
        refine p_aload_n dX10_sortReports_36 rfl 0 rfl ?_
        refine p_lay (c := 10) (tq := 6) (n := 0) dX10_sortReports_37 12 15 tb_239 (by decide) (by decide) h0 (by decide) (by decide) (fun _ => rfl) (vr 6 (a0 + 15) 0) rfl ?_
        refine p_layN (c := 6) (tq := 100) (n := 60) dX10_sortReports_40 5 6 tb_121 (by decide) (by decide) (nnk h0 (by decide)) (by decide) (by decide) (fun _ => rfl) (vr 100 (a0 + 15 + 6) 60) rfl ?_
        refine p_iload_n dX10_sortReports_43 rfl 3 rfl ?_
        refine p_iald dX10_sortReports_44 (nnk (nnk h0 (by decide)) (by decide)) c2 ?_
        refine p_iconst dX10_sortReports_45 (by decide) ?_
        refine p_icmp_eq (tgt := 75) (q := h (a0 + 15 + 6) v3 = (-1)) dX10_sortReports_46 (by decide) Iff.rfl (fun hc => ?_) (fun hc => ?_)
        · replace hf := Eq.mp (if_pos hc) hf
          exact t_X10_sortReports_75 h0 ih _ _ _ _ hf
        · replace hf := Eq.mp (if_neg hc) hf
          refine p_aload_n dX10_sortReports_49 rfl 0 rfl ?_
          refine p_lay (c := 10) (tq := 2) (n := 0) dX10_sortReports_50 16 28 tb_243 (by decide) (by decide) h0 (by decide) (by decide) (fun _ => rfl) (vr 2 (a0 + 28) 0) rfl ?_
          refine p_aload_n dX10_sortReports_53 rfl 1 rfl ?_
          refine p_aload_n dX10_sortReports_54 rfl 0 rfl ?_
          refine p_lay (c := 10) (tq := 6) (n := 0) dX10_sortReports_55 12 15 tb_239 (by decide) (by decide) h0 (by decide) (by decide) (fun _ => rfl) (vr 6 (a0 + 15) 0) rfl ?_
          refine p_layN (c := 6) (tq := 100) (n := 60) dX10_sortReports_58 2 3 tb_116 (by decide) (by decide) (nnk h0 (by decide)) (by decide) (by decide) (fun _ => rfl) (vr 100 (a0 + 15 + 3) 60) rfl ?_
          refine p_iload_n dX10_sortReports_61 rfl 3 rfl ?_
          refine p_iald dX10_sortReports_62 (nnk (nnk h0 (by decide)) (by decide)) c2 ?_
          refine p_aload_n dX10_sortReports_63 rfl 0 rfl ?_
          refine p_lay (c := 10) (tq := 6) (n := 0) dX10_sortReports_64 12 15 tb_239 (by decide) (by decide) h0 (by decide) (by decide) (fun _ => rfl) (vr 6 (a0 + 15) 0) rfl ?_
          refine p_iload_n dX10_sortReports_67 rfl 3 rfl ?_
          refine p_iload_n dX10_sortReports_68 rfl 2 rfl ?_
          refine p_callVNi dX10_sortReports_69 M_X6_isBad (Or.inr rfl) [vi v3, vi v2] (t_X6_isBad _ _ _ _ _ (nnk h0 (by decide)) hf) ok_X6_isBad rfl (c := 6) (by decide) (nnk h0 (by decide)) rfl tb_814 ⟨tb_816, ts_61⟩ rfl (Nat.le_of_ble_eq_true rfl) ⟨rfl, rfl⟩ ⟨by decide, by decide⟩ ⟨by decide, by decide⟩ (fun r5 h6 hf => ?_)
          refine p_callVNv dX10_sortReports_72 M_X2_add rfl [vr 0 v1 0, vi (h (a0 + 15 + 3) v3), vi r5] (t_X2_add _ _ _ _ _ _ (nnk h0 (by decide)) hf) ok_X2_add rfl (c := 2) (by decide) (nnk h0 (by decide)) rfl tb_847 ⟨tb_849, ts_65⟩ rfl (Nat.le_of_ble_eq_true rfl) ⟨rfl, rfl⟩ ⟨by decide, by decide⟩ ⟨by decide, by decide⟩ (fun _ h7 hf => ?_)
          exact t_X10_sortReports_75 h0 ih _ _ _ _ hf
def w_X10_sortReports (a0 x1 x2 : Int) (h : Hh) (K : Int → Hh → Prop) : Prop := w_X2_startOver (a0 + 28) h (fun _ h1 => w_X10_sortReports_9 K  a0 NF x1 x2 0 h1)
set_option maxRecDepth 100000 in
set_option maxHeartbeats 4000000 in
theorem t_X10_sortReports {G : Gx} (a0 x1 x2 : Int) (h : Hh) (K : Int → Hh → Prop) (h0 : 0 ≤ a0) (hf : w_X10_sortReports a0 x1 x2 h K) : CT G M_X10_sortReports rm_X10_sortReports 0 0 [] [vr 10 a0 0, vr 0 x1 0, vi x2] h K := by
  unfold w_X10_sortReports at hf
  refine CT.of (ls0 := [(0, vr 10 a0 0), (1, vr 0 x1 0), (2, vi x2)]) (plainFor_of_name (by decide +kernel)) (by decide +kernel) (Nat.le_of_ble_eq_true rfl) rfl rfl ?_
  refine p_aload_n dX10_sortReports_0 rfl 0 rfl ?_
  refine p_lay (c := 10) (tq := 2) (n := 0) dX10_sortReports_1 16 28 tb_243 (by decide) (by decide) h0 (by decide) (by decide) (fun _ => rfl) (vr 2 (a0 + 28) 0) rfl ?_
  refine p_callVNv dX10_sortReports_4 M_X2_startOver rfl [] (t_X2_startOver _ _ _ (nnk h0 (by decide)) hf) ok_X2_startOver rfl (c := 2) (by decide) (nnk h0 (by decide)) rfl tb_842 ⟨tb_844, ts_64⟩ rfl (Nat.le_of_ble_eq_true rfl) ⟨rfl, rfl⟩ ⟨by decide, by decide⟩ ⟨by decide, by decide⟩ (fun _ h1 hf => ?_)
  refine p_iconst dX10_sortReports_7 (by decide) ?_
  refine p_istore_n (ls' := [(3, vi 0), (0, vr 10 a0 0), (1, vr 0 x1 0), (2, vi x2)]) dX10_sortReports_8 rfl (by decide) rfl ?_
  refine p_sub (ls' := [(0, vr 10 a0 0), (1, vr 0 x1 0), (2, vi x2), (3, vi 0)]) [1, 2, 3, 0] rfl ?_
  refine t_X10_sortReports_9 h0  NF _ _ _ _ hf
theorem ok_X10_sortReports : mOK M_X10_sortReports 2 := ⟨tb_841, tb_1, by decide +kernel⟩
abbrev M_X10_suspects : MD := (yX10_suspects, cX10_suspects, 5, some .int)
abbrev rm_X10_suspects : Room := { frames := 6, cells := 0, slots := 0, locals := 144 }
def w_X10_suspects_23 (K : Int → Hh → Prop) (a0 : Int) (h : Hh) : Prop := K (-1) h
set_option maxRecDepth 100000 in
set_option maxHeartbeats 4000000 in
theorem t_X10_suspects_23 {G : Gx} {n0 : Int} {K : Int → Hh → Prop} {a0 : Int} (h0 : 0 ≤ a0)  (h : Hh) (hf : w_X10_suspects_23 K  a0  h) : PW G M_X10_suspects rm_X10_suspects 0 0 [] n0 K 23 [] [] [] 0 0 h := by
  unfold w_X10_suspects_23 at hf
  refine p_iconst dX10_suspects_23 (by decide) ?_
  exact p_iret dX10_suspects_24 rfl (by decide) (by decide) (fun _ h => absurd h List.not_mem_nil) hf
def w_X10_suspects (a0 x1 x2 x3 : Int) (h : Hh) (K : Int → Hh → Prop) : Prop := w_X10_chartAt a0 x1 h (fun r1 h2 => if r1 = -1 then (w_X10_suspects_23 K  a0  h2) else (w_X10_isBound x2 h2 (fun r3 h4 => if r3 = 0 then (w_X10_suspects_23 K  a0  h4) else (if x3 ≥ 0 then (w_X10_refreshDues a0 h4 (fun _ h5 => w_X10_sortReports a0 r1 x2 h5 (fun _ h6 => 0 ≤ r1 ∧ (w_X2_look (a0 + 28) (h6 r1 2) h6 (fun r8 h9 => if r8 ≠ 0 then (if x3 ≠ 0 then (if x3 ≠ 1 then (w_X2_suspectOfFirst (a0 + 28) (w32 (x3 - 2)) h9 (fun r10 h11 => K r10 h11)) else (K (w32 ((h9 (a0 + 28) 7) - 1)) h9)) else (K (h9 (a0 + 28) 6) h9)) else (K (-1) h9)))))) else (w_X10_suspects_23 K  a0  h4)))))
set_option maxRecDepth 100000 in
set_option maxHeartbeats 4000000 in
theorem t_X10_suspects {G : Gx} (a0 x1 x2 x3 : Int) (h : Hh) (K : Int → Hh → Prop) (h0 : 0 ≤ a0) (hf : w_X10_suspects a0 x1 x2 x3 h K) : CT G M_X10_suspects rm_X10_suspects 0 0 [] [vr 10 a0 0, vi x1, vi x2, vi x3] h K := by
  unfold w_X10_suspects at hf
  refine CT.of (ls0 := [(0, vr 10 a0 0), (1, vi x1), (2, vi x2), (3, vi x3)]) (plainFor_of_name (by decide +kernel)) (by decide +kernel) (Nat.le_of_ble_eq_true rfl) rfl rfl ?_
  refine p_aload_n dX10_suspects_0 rfl 0 rfl ?_
  refine p_iload_n dX10_suspects_1 rfl 1 rfl ?_
  refine p_callVr (Cn := "ThreadCharts$Chart") dX10_suspects_2 M_X10_chartAt rfl [vi x1] (t_X10_chartAt _ _ _ _ h0 hf) ok_X10_chartAt rfl (c := 10) (by decide) h0 rfl tb_575 ⟨tb_577, ts_29⟩ rfl (Nat.le_of_ble_eq_true rfl) ⟨rfl, rfl⟩ ⟨by decide, by decide⟩ ⟨by decide, by decide⟩ (fun r1 h2 hf => ?_)
  refine p_astore (ls' := [(4, vr 0 r1 0), (0, vr 10 a0 0), (1, vi x1), (2, vi x2), (3, vi x3)]) dX10_suspects_5 (by decide) rfl ?_
  refine p_aload dX10_suspects_7 0 rfl ?_
  refine p_ifnull (tgt := 23) dX10_suspects_9 (by decide) (by decide) (fun hc => ?_) (fun hc => ?_)
  · replace hf := Eq.mp (if_pos hc) hf
    refine p_sub (ls' := []) [] rfl ?_
    exact t_X10_suspects_23 h0   _ hf
  · replace hf := Eq.mp (if_neg hc) hf
    refine p_iload_n dX10_suspects_12 rfl 3 rfl ?_
    refine p_callSi dX10_suspects_13 M_X10_isBound (Or.inr rfl) [vi x2] (t_X10_isBound _ _ _ hf) ok_X10_isBound rfl tb_807 tb_808 rfl (Nat.le_of_ble_eq_true rfl) ⟨rfl, rfl⟩ ⟨by decide, by decide⟩ ⟨by decide, by decide⟩ (fun r3 h4 hf => ?_)
    refine p_if_eq (tgt := 23) (q := r3 = 0) dX10_suspects_16 (by decide) Iff.rfl (fun hc => ?_) (fun hc => ?_)
    · replace hf := Eq.mp (if_pos hc) hf
      refine p_sub (ls' := []) [] rfl ?_
      exact t_X10_suspects_23 h0   _ hf
    · replace hf := Eq.mp (if_neg hc) hf
      refine p_iload_n dX10_suspects_19 rfl 4 rfl ?_
      refine p_if_ge (tgt := 25) (q := x3 ≥ 0) dX10_suspects_20 (by decide) Iff.rfl (fun hc => ?_) (fun hc => ?_)
      · replace hf := Eq.mp (if_pos hc) hf
        refine p_aload_n dX10_suspects_25 rfl 1 rfl ?_
        refine p_callVv dX10_suspects_26 M_X10_refreshDues rfl [] (t_X10_refreshDues _ _ _ h0 hf) ok_X10_refreshDues rfl (c := 10) (by decide) h0 rfl tb_810 ⟨tb_812, ts_60⟩ rfl (Nat.le_of_ble_eq_true rfl) ⟨rfl, rfl⟩ ⟨by decide, by decide⟩ ⟨by decide, by decide⟩ (fun _ h5 hf => ?_)
        refine p_aload_n dX10_suspects_29 rfl 1 rfl ?_
        refine p_aload dX10_suspects_30 0 rfl ?_
        refine p_iload_n dX10_suspects_32 rfl 3 rfl ?_
        refine p_callVv dX10_suspects_33 M_X10_sortReports rfl [vr 0 r1 0, vi x2] (t_X10_sortReports _ _ _ _ _ h0 hf) ok_X10_sortReports rfl (c := 10) (by decide) h0 rfl tb_838 ⟨tb_840, ts_63⟩ rfl (Nat.le_of_ble_eq_true rfl) ⟨rfl, rfl⟩ ⟨by decide, by decide⟩ ⟨by decide, by decide⟩ (fun _ h6 hf => ?_)
        refine p_aload_n dX10_suspects_36 rfl 1 rfl ?_
        refine p_lay (c := 10) (tq := 2) (n := 0) dX10_suspects_37 16 28 tb_243 (by decide) (by decide) h0 (by decide) (by decide) (fun _ => rfl) (vr 2 (a0 + 28) 0) rfl ?_
        refine p_aload dX10_suspects_40 0 rfl ?_
        obtain ⟨c7, hf⟩ := hf
        refine p_getN (c := 0) (vi (h6 r1 2)) dX10_suspects_42 2 tb_497 (by decide) (by decide) (Or.inl rfl) c7 rfl rfl ?_
        refine p_callVNi dX10_suspects_45 M_X2_look (Or.inr rfl) [vi (h6 r1 2)] (t_X2_look _ _ _ _ (nnk h0 (by decide)) hf) ok_X2_look rfl (c := 2) (by decide) (nnk h0 (by decide)) rfl tb_853 ⟨tb_855, ts_66⟩ rfl (Nat.le_of_ble_eq_true rfl) ⟨rfl, rfl⟩ ⟨by decide, by decide⟩ ⟨by decide, by decide⟩ (fun r8 h9 hf => ?_)
        refine p_if_ne (tgt := 53) (q := r8 ≠ 0) dX10_suspects_48 (by decide) Iff.rfl (fun hc => ?_) (fun hc => ?_)
        · replace hf := Eq.mp (if_pos hc) hf
          refine p_iload_n dX10_suspects_53 rfl 4 rfl ?_
          refine p_if_ne (tgt := 65) (q := x3 ≠ 0) dX10_suspects_54 (by decide) Iff.rfl (fun hc => ?_) (fun hc => ?_)
          · replace hf := Eq.mp (if_pos hc) hf
            refine p_iload_n dX10_suspects_65 rfl 4 rfl ?_
            refine p_iconst dX10_suspects_66 (by decide) ?_
            refine p_icmp_ne (tgt := 80) (q := x3 ≠ 1) dX10_suspects_67 (by decide) Iff.rfl (fun hc => ?_) (fun hc => ?_)
            · replace hf := Eq.mp (if_pos hc) hf
              refine p_aload_n dX10_suspects_80 rfl 1 rfl ?_
              refine p_lay (c := 10) (tq := 2) (n := 0) dX10_suspects_81 16 28 tb_243 (by decide) (by decide) h0 (by decide) (by decide) (fun _ => rfl) (vr 2 (a0 + 28) 0) rfl ?_
              refine p_iload_n dX10_suspects_84 rfl 4 rfl ?_
              refine p_iconst dX10_suspects_85 (by decide) ?_
              refine p_isub dX10_suspects_86 ?_
              refine p_callVNi dX10_suspects_87 M_X2_suspectOfFirst (Or.inl rfl) [vi (w32 (x3 - 2))] (t_X2_suspectOfFirst _ _ _ _ (nnk h0 (by decide)) hf) ok_X2_suspectOfFirst rfl (c := 2) (by decide) (nnk h0 (by decide)) rfl tb_879 ⟨tb_881, ts_71⟩ rfl (Nat.le_of_ble_eq_true rfl) ⟨rfl, rfl⟩ ⟨by decide, by decide⟩ ⟨by decide, by decide⟩ (fun r10 h11 hf => ?_)
              exact p_iret dX10_suspects_90 rfl (by decide) (by decide) (fun _ h => absurd h List.not_mem_nil) hf
            · replace hf := Eq.mp (if_neg hc) hf
              refine p_aload_n dX10_suspects_70 rfl 1 rfl ?_
              refine p_lay (c := 10) (tq := 2) (n := 0) dX10_suspects_71 16 28 tb_243 (by decide) (by decide) h0 (by decide) (by decide) (fun _ => rfl) (vr 2 (a0 + 28) 0) rfl ?_
              refine p_getN (c := 2) (vi (h9 (a0 + 28) 7)) dX10_suspects_74 7 tb_206 (by decide) (by decide) (Or.inl rfl) (nnk h0 (by decide)) rfl rfl ?_
              refine p_iconst dX10_suspects_77 (by decide) ?_
              refine p_isub dX10_suspects_78 ?_
              exact p_iret dX10_suspects_79 rfl (by decide) (by decide) (fun _ h => absurd h List.not_mem_nil) hf
          · replace hf := Eq.mp (if_neg hc) hf
            refine p_aload_n dX10_suspects_57 rfl 1 rfl ?_
            refine p_lay (c := 10) (tq := 2) (n := 0) dX10_suspects_58 16 28 tb_243 (by decide) (by decide) h0 (by decide) (by decide) (fun _ => rfl) (vr 2 (a0 + 28) 0) rfl ?_
            refine p_getN (c := 2) (vi (h9 (a0 + 28) 6)) dX10_suspects_61 6 tb_204 (by decide) (by decide) (Or.inl rfl) (nnk h0 (by decide)) rfl rfl ?_
            exact p_iret dX10_suspects_64 rfl (by decide) (by decide) (fun _ h => absurd h List.not_mem_nil) hf
        · replace hf := Eq.mp (if_neg hc) hf
          refine p_iconst dX10_suspects_51 (by decide) ?_
          exact p_iret dX10_suspects_52 rfl (by decide) (by decide) (fun _ h => absurd h List.not_mem_nil) hf
      · replace hf := Eq.mp (if_neg hc) hf
        refine p_sub (ls' := []) [] rfl ?_
        exact t_X10_suspects_23 h0   _ hf
theorem ok_X10_suspects : mOK M_X10_suspects 3 := ⟨tb_837, tb_1, by decide +kernel⟩
abbrev M_X10_count : MD := (yX10_count, cX10_count, 2, some .int)
abbrev rm_X10_count : Room := { frames := 0, cells := 0, slots := 0, locals := 0 }
def w_X10_count_110 (K : Int → Hh → Prop) (a0 : Int) (s0 : Int) (h : Hh) : Prop := K s0 h
set_option maxRecDepth 100000 in
set_option maxHeartbeats 4000000 in
theorem t_X10_count_110 {G : Gx} {n0 : Int} {K : Int → Hh → Prop} {a0 : Int} (h0 : 0 ≤ a0)  (s0 : Int) (h : Hh) (hf : w_X10_count_110 K  a0 s0 h) : PW G M_X10_count rm_X10_count 0 0 [] n0 K 110 [] [vi s0] [] 0 0 h := by
  unfold w_X10_count_110 at hf
  exact p_iret dX10_count_110 rfl (by decide) (by decide) (fun _ h => absurd h List.not_mem_nil) hf
def w_X10_count (a0 x1 : Int) (h : Hh) (K : Int → Hh → Prop) : Prop := if x1 = 0 then (K (h a0 8) h) else (if x1 = 1 then (K (h a0 3) h) else (if x1 = 2 then (K (h a0 5) h) else (if x1 = 3 then (K (h (a0 + 9) 5) h) else (if x1 = 4 then (K (h (a0 + 15) 7) h) else (if x1 = 5 then (K (h a0 7) h) else (if x1 = 6 then (K (h (a0 + 1) 1) h) else (if x1 = 7 then (if h a0 9 ≠ -1 then (0 ≤ h a0 9 ∧ (w_X10_count_110 K  a0 (h (h a0 9) 1) h)) else (w_X10_count_110 K  a0 (-1) h)) else (K (-1) h))))))))
set_option maxRecDepth 100000 in
set_option maxHeartbeats 4000000 in
theorem t_X10_count {G : Gx} (a0 x1 : Int) (h : Hh) (K : Int → Hh → Prop) (h0 : 0 ≤ a0) (hf : w_X10_count a0 x1 h K) : CT G M_X10_count rm_X10_count 0 0 [] [vr 10 a0 0, vi x1] h K := by
  unfold w_X10_count at hf
  refine CT.of (ls0 := [(0, vr 10 a0 0), (1, vi x1)]) (plainFor_of_name (by decide +kernel)) (by decide +kernel) (Nat.le_of_ble_eq_true rfl) rfl rfl ?_
  refine p_iload_n dX10_count_0 rfl 1 rfl ?_
  by_cases hc : x1 = 0
  · replace hf := Eq.mp (if_pos hc) hf
    refine p_tsIn (tgt := 48) (off := 47) dX10_count_1 (by omega) (by omega) (by rw [hc]; rfl) (by decide) ?_
    refine p_aload_n dX10_count_48 rfl 0 rfl ?_
    refine p_get (c := 10) (vi (h a0 8)) dX10_count_49 8 tb_235 (by decide) (by decide) (Or.inl rfl) h0 rfl rfl ?_
    exact p_iret dX10_count_52 rfl (by decide) (by decide) (fun _ h => absurd h List.not_mem_nil) hf
  replace hf := Eq.mp (if_neg hc) hf
  have hc1_0 := hc
  clear hc
  by_cases hc : x1 = 1
  · replace hf := Eq.mp (if_pos hc) hf
    refine p_tsIn (tgt := 53) (off := 52) dX10_count_1 (by omega) (by omega) (by rw [hc]; rfl) (by decide) ?_
    refine p_aload_n dX10_count_53 rfl 0 rfl ?_
    refine p_get (c := 10) (vi (h a0 3)) dX10_count_54 3 tb_230 (by decide) (by decide) (Or.inl rfl) h0 rfl rfl ?_
    exact p_iret dX10_count_57 rfl (by decide) (by decide) (fun _ h => absurd h List.not_mem_nil) hf
  replace hf := Eq.mp (if_neg hc) hf
  have hc1_1 := hc
  clear hc
  by_cases hc : x1 = 2
  · replace hf := Eq.mp (if_pos hc) hf
    refine p_tsIn (tgt := 58) (off := 57) dX10_count_1 (by omega) (by omega) (by rw [hc]; rfl) (by decide) ?_
    refine p_aload_n dX10_count_58 rfl 0 rfl ?_
    refine p_get (c := 10) (vi (h a0 5)) dX10_count_59 5 tb_232 (by decide) (by decide) (Or.inl rfl) h0 rfl rfl ?_
    exact p_iret dX10_count_62 rfl (by decide) (by decide) (fun _ h => absurd h List.not_mem_nil) hf
  replace hf := Eq.mp (if_neg hc) hf
  have hc1_2 := hc
  clear hc
  by_cases hc : x1 = 3
  · replace hf := Eq.mp (if_pos hc) hf
    refine p_tsIn (tgt := 63) (off := 62) dX10_count_1 (by omega) (by omega) (by rw [hc]; rfl) (by decide) ?_
    refine p_aload_n dX10_count_63 rfl 0 rfl ?_
    refine p_lay (c := 10) (tq := 1) (n := 0) dX10_count_64 11 9 tb_238 (by decide) (by decide) h0 (by decide) (by decide) (fun _ => rfl) (vr 1 (a0 + 9) 0) rfl ?_
    refine p_getN (c := 1) (vi (h (a0 + 9) 5)) dX10_count_67 5 tb_92 (by decide) (by decide) (Or.inl rfl) (nnk h0 (by decide)) rfl rfl ?_
    exact p_iret dX10_count_70 rfl (by decide) (by decide) (fun _ h => absurd h List.not_mem_nil) hf
  replace hf := Eq.mp (if_neg hc) hf
  have hc1_3 := hc
  clear hc
  by_cases hc : x1 = 4
  · replace hf := Eq.mp (if_pos hc) hf
    refine p_tsIn (tgt := 71) (off := 70) dX10_count_1 (by omega) (by omega) (by rw [hc]; rfl) (by decide) ?_
    refine p_aload_n dX10_count_71 rfl 0 rfl ?_
    refine p_lay (c := 10) (tq := 6) (n := 0) dX10_count_72 12 15 tb_239 (by decide) (by decide) h0 (by decide) (by decide) (fun _ => rfl) (vr 6 (a0 + 15) 0) rfl ?_
    refine p_getN (c := 6) (vi (h (a0 + 15) 7)) dX10_count_75 7 tb_124 (by decide) (by decide) (Or.inl rfl) (nnk h0 (by decide)) rfl rfl ?_
    exact p_iret dX10_count_78 rfl (by decide) (by decide) (fun _ h => absurd h List.not_mem_nil) hf
  replace hf := Eq.mp (if_neg hc) hf
  have hc1_4 := hc
  clear hc
  by_cases hc : x1 = 5
  · replace hf := Eq.mp (if_pos hc) hf
    refine p_tsIn (tgt := 79) (off := 78) dX10_count_1 (by omega) (by omega) (by rw [hc]; rfl) (by decide) ?_
    refine p_aload_n dX10_count_79 rfl 0 rfl ?_
    refine p_get (c := 10) (vi (h a0 7)) dX10_count_80 7 tb_234 (by decide) (by decide) (Or.inl rfl) h0 rfl rfl ?_
    exact p_iret dX10_count_83 rfl (by decide) (by decide) (fun _ h => absurd h List.not_mem_nil) hf
  replace hf := Eq.mp (if_neg hc) hf
  have hc1_5 := hc
  clear hc
  by_cases hc : x1 = 6
  · replace hf := Eq.mp (if_pos hc) hf
    refine p_tsIn (tgt := 84) (off := 83) dX10_count_1 (by omega) (by omega) (by rw [hc]; rfl) (by decide) ?_
    refine p_aload_n dX10_count_84 rfl 0 rfl ?_
    refine p_lay (c := 10) (tq := 8) (n := 0) dX10_count_85 0 1 tb_227 (by decide) (by decide) h0 (by decide) (by decide) (fun _ => rfl) (vr 8 (a0 + 1) 0) rfl ?_
    refine p_getN (c := 8) (vi (h (a0 + 1) 1)) dX10_count_88 1 tb_31 (by decide) (by decide) (Or.inl rfl) (nnk h0 (by decide)) rfl rfl ?_
    exact p_iret dX10_count_91 rfl (by decide) (by decide) (fun _ h => absurd h List.not_mem_nil) hf
  replace hf := Eq.mp (if_neg hc) hf
  have hc1_6 := hc
  clear hc
  by_cases hc : x1 = 7
  · replace hf := Eq.mp (if_pos hc) hf
    refine p_tsIn (tgt := 92) (off := 91) dX10_count_1 (by omega) (by omega) (by rw [hc]; rfl) (by decide) ?_
    refine p_aload_n dX10_count_92 rfl 0 rfl ?_
    refine p_get (c := 10) (vr 0 (h a0 9) 0) dX10_count_93 9 tb_236 (by decide) (by decide) (Or.inl rfl) h0 rfl rfl ?_
    refine p_ifnonnull (tgt := 103) dX10_count_96 (by decide) (by decide) (fun hc => ?_) (fun hc => ?_)
    · replace hf := Eq.mp (if_pos hc) hf
      refine p_aload_n dX10_count_103 rfl 0 rfl ?_
      refine p_get (c := 10) (vr 0 (h a0 9) 0) dX10_count_104 9 tb_236 (by decide) (by decide) (Or.inl rfl) h0 rfl rfl ?_
      obtain ⟨c1, hf⟩ := hf
      refine p_getN (c := 0) (vi (h (h a0 9) 1)) dX10_count_107 1 tb_493 (by decide) (by decide) (Or.inl rfl) c1 rfl rfl ?_
      refine p_sub (ls' := []) [] rfl ?_
      exact t_X10_count_110 h0  _ _ hf
    · replace hf := Eq.mp (if_neg hc) hf
      refine p_iconst dX10_count_99 (by decide) ?_
      refine p_goto (tgt := 110) dX10_count_100 (by decide) ?_
      refine p_sub (ls' := []) [] rfl ?_
      exact t_X10_count_110 h0  _ _ hf
  replace hf := Eq.mp (if_neg hc) hf
  have hc1_7 := hc
  clear hc
  refine p_tsOut (tgt := 111) dX10_count_1 (by omega) (by decide) ?_
  refine p_iconst dX10_count_111 (by decide) ?_
  exact p_iret dX10_count_112 rfl (by decide) (by decide) (fun _ h => absurd h List.not_mem_nil) hf
theorem ok_X10_count : mOK M_X10_count 1 := ⟨tb_886, tb_1, by decide +kernel⟩
abbrev M_X11_init : MD := (yX11_init, cX11_init, 1, none)
abbrev rm_X11_init : Room := { frames := 1, cells := 38, slots := 2307, locals := 20 }
def w_X11_init (a0 : Int) (h : Hh) (K : Int → Hh → Prop) : Prop := (h (-1) 0 = a0 + 1) ∧ (hb (nw h (fun _ => 0)) fun h2 => hb (up h2 a0 0 (a0 + 1)) fun h3 => (h3 (-1) 0 = a0 + 2) ∧ (hb (nw h3 (fun _ => 0)) fun h5 => hb (up h5 a0 7 (a0 + 2)) fun h6 => (h6 (-1) 0 = a0 + 3) ∧ (hb (nw h6 (fun _ => 0)) fun h8 => hb (up h8 a0 8 (a0 + 3)) fun h9 => (h9 (-1) 0 = a0 + 4) ∧ (hb (nw h9 (fun _ => 0)) fun h11 => hb (up h11 a0 9 (a0 + 4)) fun h12 => (h12 (-1) 0 = a0 + 5) ∧ (hb (nw h12 (fun _ => 0)) fun h14 => hb (up h14 a0 12 (a0 + 5)) fun h15 => (h15 (-1) 0 = a0 + 6) ∧ (hb (nw h15 (fun _ => 0)) fun h17 => hb (up h17 a0 13 (a0 + 6)) fun h18 => (h18 (-1) 0 = a0 + 7) ∧ (hb (nw h18 (fun _ => 0)) fun h20 => hb (up h20 a0 14 (a0 + 7)) fun h21 => (h21 (-1) 0 = a0 + 8) ∧ (hb (nw h21 (fun _ => 0)) fun h23 => hb (up h23 a0 15 (a0 + 8)) fun h24 => (h24 (-1) 0 = a0 + 9) ∧ (hb (nw h24 (fun _ => 0)) fun h26 => hb (up h26 a0 16 (a0 + 9)) fun h27 => (h27 (-1) 0 = a0 + 10) ∧ (hb (nw h27 (fun _ => 0)) fun h29 => hb (up h29 a0 17 (a0 + 10)) fun h30 => (h30 (-1) 0 = a0 + 11) ∧ (hb (nw h30 (fun _ => 0)) fun h32 => hb (up h32 a0 19 (a0 + 11)) fun h33 => (h33 (-1) 0 = a0 + 12) ∧ (hb (nw h33 (fun _ => 0)) fun h35 => hb (up h35 a0 20 (a0 + 12)) fun h36 => (h36 (-1) 0 = a0 + 13) ∧ (hb (nw h36 (fun _ => 0)) fun h38 => hb (up h38 a0 21 (a0 + 13)) fun h39 => (h39 (-1) 0 = a0 + 14) ∧ (hb (nw h39 (fun _ => 0)) fun h41 => hb (up h41 a0 22 (a0 + 14)) fun h42 => (h42 (-1) 0 = a0 + 15) ∧ (hb (nw h42 (fun _ => 0)) fun h44 => hb (up h44 a0 23 (a0 + 15)) fun h45 => (h45 (-1) 0 = a0 + 16) ∧ (hb (nw h45 (fun _ => 0)) fun h47 => hb (up h47 a0 24 (a0 + 16)) fun h48 => (h48 (-1) 0 = a0 + 17) ∧ (hb (nw h48 (fun _ => 0)) fun h50 => hb (up h50 a0 25 (a0 + 17)) fun h51 => (h51 (-1) 0 = a0 + 18) ∧ (hb (nw h51 (fun _ => 0)) fun h53 => hb (up h53 a0 26 (a0 + 18)) fun h54 => hb (up h54 a0 27 (-1)) fun h55 => (h55 (-1) 0 = a0 + 19) ∧ (hb (nw h55 (fun _ => 0)) fun h57 => hb (up h57 a0 28 (a0 + 19)) fun h58 => (h58 (-1) 0 = a0 + 20) ∧ (hb (nw h58 (fun _ => 0)) fun h60 => hb (up h60 a0 31 (a0 + 20)) fun h61 => (h61 (-1) 0 = a0 + 21) ∧ (hb (nw h61 (fun _ => 0)) fun h63 => hb (up h63 a0 32 (a0 + 21)) fun h64 => (h64 (-1) 0 = a0 + 22) ∧ (hb (nw h64 (fun _ => 0)) fun h66 => hb (up h66 a0 33 (a0 + 22)) fun h67 => (h67 (-1) 0 = a0 + 23) ∧ (hb (nw h67 (fun _ => 0)) fun h69 => hb (up h69 a0 34 (a0 + 23)) fun h70 => (h70 (-1) 0 = a0 + 24) ∧ (hb (nw h70 (fun _ => 0)) fun h72 => hb (up h72 a0 35 (a0 + 24)) fun h73 => (h73 (-1) 0 = a0 + 25) ∧ (hb (nw h73 (fun _ => 0)) fun h75 => hb (up h75 a0 37 (a0 + 25)) fun h76 => (h76 (-1) 0 = a0 + 26) ∧ (hb (nw h76 (fun _ => 0)) fun h78 => hb (up h78 a0 38 (a0 + 26)) fun h79 => (h79 (-1) 0 = a0 + 27) ∧ (hb (nw h79 (fun _ => 0)) fun h81 => hb (up h81 a0 39 (a0 + 27)) fun h82 => (h82 (-1) 0 = a0 + 28) ∧ (hb (nw h82 (fun _ => 0)) fun h84 => hb (up h84 a0 40 (a0 + 28)) fun h85 => (h85 (-1) 0 = a0 + 29) ∧ (hb (nw h85 (fun _ => 0)) fun h87 => hb (up h87 a0 41 (a0 + 29)) fun h88 => (h88 (-1) 0 = a0 + 30) ∧ (hb (nw h88 (fun _ => 0)) fun h90 => hb (up h90 a0 43 (a0 + 30)) fun h91 => (h91 (-1) 0 = a0 + 31) ∧ (hb (nw h91 (fun _ => 0)) fun h93 => hb (up h93 a0 44 (a0 + 31)) fun h94 => (h94 (-1) 0 = a0 + 32) ∧ (hb (nw h94 (fun _ => 0)) fun h96 => hb (up h96 a0 45 (a0 + 32)) fun h97 => (h97 (-1) 0 = a0 + 33) ∧ (hb (nw h97 (fun _ => 0)) fun h99 => hb (up h99 a0 46 (a0 + 33)) fun h100 => (h100 (-1) 0 = a0 + 34) ∧ (hb (nw h100 (fun _ => 0)) fun h102 => hb (up h102 a0 47 (a0 + 34)) fun h103 => (h103 (-1) 0 = a0 + 35) ∧ (hb (nw h103 (fun _ => 0)) fun h105 => hb (up h105 a0 48 (a0 + 35)) fun h106 => (h106 (-1) 0 = a0 + 36) ∧ (hb (nw h106 (fun _ => 0)) fun h108 => hb (up h108 a0 49 (a0 + 36)) fun h109 => (h109 (-1) 0 = a0 + 37) ∧ (hb (nw h109 (fun _ => 0)) fun h111 => hb (up h111 a0 54 (a0 + 37)) fun h112 => (h112 (-1) 0 = a0 + 38) ∧ (hb (nw h112 (fun _ => 0)) fun h114 => hb (up h114 a0 55 (a0 + 38)) fun h115 => K 0 h115))))))))))))))))))))))))))))))))))))))
set_option maxRecDepth 100000 in
set_option maxHeartbeats 4000000 in
theorem t_X11_init {G : Gx} (a0 : Int) (h : Hh) (K : Int → Hh → Prop) (h0 : 0 ≤ a0) (hf : w_X11_init a0 h K) : CT G M_X11_init rm_X11_init 38 2307 [vr 102 (a0 + 1) 120, vr 100 (a0 + 2) 5, vr 100 (a0 + 3) 5, vr 100 (a0 + 4) 5, vr 100 (a0 + 5) 6, vr 100 (a0 + 6) 6, vr 100 (a0 + 7) 30, vr 100 (a0 + 8) 30, vr 100 (a0 + 9) 30, vr 100 (a0 + 10) 1200, vr 100 (a0 + 11) 6, vr 100 (a0 + 12) 24, vr 100 (a0 + 13) 6, vr 100 (a0 + 14) 18, vr 100 (a0 + 15) 18, vr 100 (a0 + 16) 6, vr 100 (a0 + 17) 6, vr 100 (a0 + 18) 6, vr 100 (a0 + 19) 4, vr 100 (a0 + 20) 40, vr 100 (a0 + 21) 40, vr 100 (a0 + 22) 40, vr 100 (a0 + 23) 40, vr 100 (a0 + 24) 40, vr 100 (a0 + 25) 60, vr 100 (a0 + 26) 60, vr 100 (a0 + 27) 240, vr 100 (a0 + 28) 60, vr 100 (a0 + 29) 60, vr 100 (a0 + 30) 4, vr 100 (a0 + 31) 4, vr 101 (a0 + 32) 3, vr 101 (a0 + 33) 3, vr 101 (a0 + 34) 3, vr 101 (a0 + 35) 3, vr 100 (a0 + 36) 4, vr 100 (a0 + 37) 60, vr 100 (a0 + 38) 12] [vr 61 a0 0] h K := by
  unfold w_X11_init at hf
  refine CT.of (ls0 := [(0, vr 61 a0 0)]) (plainFor_of_name (by decide +kernel)) (by decide +kernel) (Nat.le_of_ble_eq_true rfl) rfl rfl ?_
  refine p_aload_n dX11_init_0 rfl 0 rfl ?_
  refine p_oinit dX11_init_1 tb_892 tb_22 tb_23 (by decide) h0 (Nat.le_of_ble_eq_true rfl) ⟨by decide, by decide⟩ ?_
  refine p_aload_n dX11_init_4 rfl 0 rfl ?_
  refine p_bipush dX11_init_5 (by decide) (by decide) ?_
  obtain ⟨c1, hf⟩ := hf
  refine p_newa (t := 102) (ti := 2) (ty := .byte) (z := a0 + 1) dX11_init_7 rfl (Or.inr (Or.inr ⟨rfl, rfl⟩)) rfl tb_39 (by decide) c1 ⟨by decide, by decide⟩ ?_
  replace hf := hb_e hf
  generalize nw h (fun _ => 0) = h2 at hf ⊢
  refine p_norm (kn' := [vr 102 (a0 + 1) 120]) (cells' := 1) (slots' := 120) rfl rfl rfl ?_
  refine p_putaF (c := 11) dX11_init_9 0 tb_893 (by decide) (by decide) (Or.inr rfl) h0 rfl rfl rfl rfl rfl (by decide) (fun q => absurd q (by decide)) (up h2 a0 0 (a0 + 1)) rfl ?_
  replace hf := hb_e hf
  generalize up h2 a0 0 (a0 + 1) = h3 at hf ⊢
  refine p_aload_n dX11_init_12 rfl 0 rfl ?_
  refine p_iconst dX11_init_13 (by decide) ?_
  obtain ⟨c4, hf⟩ := hf
  refine p_newa (t := 100) (ti := 0) (ty := .int) (z := a0 + 2) dX11_init_14 rfl (Or.inl ⟨rfl, rfl⟩) rfl tb_75 (by decide) c4 ⟨by decide, by decide⟩ ?_
  replace hf := hb_e hf
  generalize nw h3 (fun _ => 0) = h5 at hf ⊢
  refine p_norm (kn' := [vr 100 (a0 + 2) 5, vr 102 (a0 + 1) 120]) (cells' := 2) (slots' := 125) rfl rfl rfl ?_
  refine p_putaF (c := 11) dX11_init_16 7 tb_900 (by decide) (by decide) (Or.inr rfl) h0 rfl rfl rfl rfl rfl (by decide) (fun q => absurd q (by decide)) (up h5 a0 7 (a0 + 2)) rfl ?_
  replace hf := hb_e hf
  generalize up h5 a0 7 (a0 + 2) = h6 at hf ⊢
  refine p_aload_n dX11_init_19 rfl 0 rfl ?_
  refine p_iconst dX11_init_20 (by decide) ?_
  obtain ⟨c7, hf⟩ := hf
  refine p_newa (t := 100) (ti := 0) (ty := .int) (z := a0 + 3) dX11_init_21 rfl (Or.inl ⟨rfl, rfl⟩) rfl tb_75 (by decide) c7 ⟨by decide, by decide⟩ ?_
  replace hf := hb_e hf
  generalize nw h6 (fun _ => 0) = h8 at hf ⊢
  refine p_norm (kn' := [vr 100 (a0 + 3) 5, vr 100 (a0 + 2) 5, vr 102 (a0 + 1) 120]) (cells' := 3) (slots' := 130) rfl rfl rfl ?_
  refine p_putaF (c := 11) dX11_init_23 8 tb_901 (by decide) (by decide) (Or.inr rfl) h0 rfl rfl rfl rfl rfl (by decide) (fun q => absurd q (by decide)) (up h8 a0 8 (a0 + 3)) rfl ?_
  replace hf := hb_e hf
  generalize up h8 a0 8 (a0 + 3) = h9 at hf ⊢
  refine p_aload_n dX11_init_26 rfl 0 rfl ?_
  refine p_iconst dX11_init_27 (by decide) ?_
  obtain ⟨c10, hf⟩ := hf
  refine p_newa (t := 100) (ti := 0) (ty := .int) (z := a0 + 4) dX11_init_28 rfl (Or.inl ⟨rfl, rfl⟩) rfl tb_75 (by decide) c10 ⟨by decide, by decide⟩ ?_
  replace hf := hb_e hf
  generalize nw h9 (fun _ => 0) = h11 at hf ⊢
  refine p_norm (kn' := [vr 100 (a0 + 4) 5, vr 100 (a0 + 3) 5, vr 100 (a0 + 2) 5, vr 102 (a0 + 1) 120]) (cells' := 4) (slots' := 135) rfl rfl rfl ?_
  refine p_putaF (c := 11) dX11_init_30 9 tb_902 (by decide) (by decide) (Or.inr rfl) h0 rfl rfl rfl rfl rfl (by decide) (fun q => absurd q (by decide)) (up h11 a0 9 (a0 + 4)) rfl ?_
  replace hf := hb_e hf
  generalize up h11 a0 9 (a0 + 4) = h12 at hf ⊢
  refine p_aload_n dX11_init_33 rfl 0 rfl ?_
  refine p_bipush dX11_init_34 (by decide) (by decide) ?_
  obtain ⟨c13, hf⟩ := hf
  refine p_newa (t := 100) (ti := 0) (ty := .int) (z := a0 + 5) dX11_init_36 rfl (Or.inl ⟨rfl, rfl⟩) rfl tb_75 (by decide) c13 ⟨by decide, by decide⟩ ?_
  replace hf := hb_e hf
  generalize nw h12 (fun _ => 0) = h14 at hf ⊢
  refine p_norm (kn' := [vr 100 (a0 + 5) 6, vr 100 (a0 + 4) 5, vr 100 (a0 + 3) 5, vr 100 (a0 + 2) 5, vr 102 (a0 + 1) 120]) (cells' := 5) (slots' := 141) rfl rfl rfl ?_
  refine p_putaF (c := 11) dX11_init_38 12 tb_905 (by decide) (by decide) (Or.inr rfl) h0 rfl rfl rfl rfl rfl (by decide) (fun q => absurd q (by decide)) (up h14 a0 12 (a0 + 5)) rfl ?_
  replace hf := hb_e hf
  generalize up h14 a0 12 (a0 + 5) = h15 at hf ⊢
  refine p_aload_n dX11_init_41 rfl 0 rfl ?_
  refine p_bipush dX11_init_42 (by decide) (by decide) ?_
  obtain ⟨c16, hf⟩ := hf
  refine p_newa (t := 100) (ti := 0) (ty := .int) (z := a0 + 6) dX11_init_44 rfl (Or.inl ⟨rfl, rfl⟩) rfl tb_75 (by decide) c16 ⟨by decide, by decide⟩ ?_
  replace hf := hb_e hf
  generalize nw h15 (fun _ => 0) = h17 at hf ⊢
  refine p_norm (kn' := [vr 100 (a0 + 6) 6, vr 100 (a0 + 5) 6, vr 100 (a0 + 4) 5, vr 100 (a0 + 3) 5, vr 100 (a0 + 2) 5, vr 102 (a0 + 1) 120]) (cells' := 6) (slots' := 147) rfl rfl rfl ?_
  refine p_putaF (c := 11) dX11_init_46 13 tb_906 (by decide) (by decide) (Or.inr rfl) h0 rfl rfl rfl rfl rfl (by decide) (fun q => absurd q (by decide)) (up h17 a0 13 (a0 + 6)) rfl ?_
  replace hf := hb_e hf
  generalize up h17 a0 13 (a0 + 6) = h18 at hf ⊢
  refine p_aload_n dX11_init_49 rfl 0 rfl ?_
  refine p_bipush dX11_init_50 (by decide) (by decide) ?_
  obtain ⟨c19, hf⟩ := hf
  refine p_newa (t := 100) (ti := 0) (ty := .int) (z := a0 + 7) dX11_init_52 rfl (Or.inl ⟨rfl, rfl⟩) rfl tb_75 (by decide) c19 ⟨by decide, by decide⟩ ?_
  replace hf := hb_e hf
  generalize nw h18 (fun _ => 0) = h20 at hf ⊢
  refine p_norm (kn' := [vr 100 (a0 + 7) 30, vr 100 (a0 + 6) 6, vr 100 (a0 + 5) 6, vr 100 (a0 + 4) 5, vr 100 (a0 + 3) 5, vr 100 (a0 + 2) 5, vr 102 (a0 + 1) 120]) (cells' := 7) (slots' := 177) rfl rfl rfl ?_
  refine p_putaF (c := 11) dX11_init_54 14 tb_907 (by decide) (by decide) (Or.inr rfl) h0 rfl rfl rfl rfl rfl (by decide) (fun q => absurd q (by decide)) (up h20 a0 14 (a0 + 7)) rfl ?_
  replace hf := hb_e hf
  generalize up h20 a0 14 (a0 + 7) = h21 at hf ⊢
  refine p_aload_n dX11_init_57 rfl 0 rfl ?_
  refine p_bipush dX11_init_58 (by decide) (by decide) ?_
  obtain ⟨c22, hf⟩ := hf
  refine p_newa (t := 100) (ti := 0) (ty := .int) (z := a0 + 8) dX11_init_60 rfl (Or.inl ⟨rfl, rfl⟩) rfl tb_75 (by decide) c22 ⟨by decide, by decide⟩ ?_
  replace hf := hb_e hf
  generalize nw h21 (fun _ => 0) = h23 at hf ⊢
  refine p_norm (kn' := [vr 100 (a0 + 8) 30, vr 100 (a0 + 7) 30, vr 100 (a0 + 6) 6, vr 100 (a0 + 5) 6, vr 100 (a0 + 4) 5, vr 100 (a0 + 3) 5, vr 100 (a0 + 2) 5, vr 102 (a0 + 1) 120]) (cells' := 8) (slots' := 207) rfl rfl rfl ?_
  refine p_putaF (c := 11) dX11_init_62 15 tb_908 (by decide) (by decide) (Or.inr rfl) h0 rfl rfl rfl rfl rfl (by decide) (fun q => absurd q (by decide)) (up h23 a0 15 (a0 + 8)) rfl ?_
  replace hf := hb_e hf
  generalize up h23 a0 15 (a0 + 8) = h24 at hf ⊢
  refine p_aload_n dX11_init_65 rfl 0 rfl ?_
  refine p_bipush dX11_init_66 (by decide) (by decide) ?_
  obtain ⟨c25, hf⟩ := hf
  refine p_newa (t := 100) (ti := 0) (ty := .int) (z := a0 + 9) dX11_init_68 rfl (Or.inl ⟨rfl, rfl⟩) rfl tb_75 (by decide) c25 ⟨by decide, by decide⟩ ?_
  replace hf := hb_e hf
  generalize nw h24 (fun _ => 0) = h26 at hf ⊢
  refine p_norm (kn' := [vr 100 (a0 + 9) 30, vr 100 (a0 + 8) 30, vr 100 (a0 + 7) 30, vr 100 (a0 + 6) 6, vr 100 (a0 + 5) 6, vr 100 (a0 + 4) 5, vr 100 (a0 + 3) 5, vr 100 (a0 + 2) 5, vr 102 (a0 + 1) 120]) (cells' := 9) (slots' := 237) rfl rfl rfl ?_
  refine p_putaF (c := 11) dX11_init_70 16 tb_909 (by decide) (by decide) (Or.inr rfl) h0 rfl rfl rfl rfl rfl (by decide) (fun q => absurd q (by decide)) (up h26 a0 16 (a0 + 9)) rfl ?_
  replace hf := hb_e hf
  generalize up h26 a0 16 (a0 + 9) = h27 at hf ⊢
  refine p_aload_n dX11_init_73 rfl 0 rfl ?_
  refine p_sipush dX11_init_74 (by decide) (by decide) ?_
  obtain ⟨c28, hf⟩ := hf
  refine p_newa (t := 100) (ti := 0) (ty := .int) (z := a0 + 10) dX11_init_77 rfl (Or.inl ⟨rfl, rfl⟩) rfl tb_75 (by decide) c28 ⟨by decide, by decide⟩ ?_
  replace hf := hb_e hf
  generalize nw h27 (fun _ => 0) = h29 at hf ⊢
  refine p_norm (kn' := [vr 100 (a0 + 10) 1200, vr 100 (a0 + 9) 30, vr 100 (a0 + 8) 30, vr 100 (a0 + 7) 30, vr 100 (a0 + 6) 6, vr 100 (a0 + 5) 6, vr 100 (a0 + 4) 5, vr 100 (a0 + 3) 5, vr 100 (a0 + 2) 5, vr 102 (a0 + 1) 120]) (cells' := 10) (slots' := 1437) rfl rfl rfl ?_
  refine p_putaF (c := 11) dX11_init_79 17 tb_910 (by decide) (by decide) (Or.inr rfl) h0 rfl rfl rfl rfl rfl (by decide) (fun q => absurd q (by decide)) (up h29 a0 17 (a0 + 10)) rfl ?_
  replace hf := hb_e hf
  generalize up h29 a0 17 (a0 + 10) = h30 at hf ⊢
  refine p_aload_n dX11_init_82 rfl 0 rfl ?_
  refine p_bipush dX11_init_83 (by decide) (by decide) ?_
  obtain ⟨c31, hf⟩ := hf
  refine p_newa (t := 100) (ti := 0) (ty := .int) (z := a0 + 11) dX11_init_85 rfl (Or.inl ⟨rfl, rfl⟩) rfl tb_75 (by decide) c31 ⟨by decide, by decide⟩ ?_
  replace hf := hb_e hf
  generalize nw h30 (fun _ => 0) = h32 at hf ⊢
  refine p_norm (kn' := [vr 100 (a0 + 11) 6, vr 100 (a0 + 10) 1200, vr 100 (a0 + 9) 30, vr 100 (a0 + 8) 30, vr 100 (a0 + 7) 30, vr 100 (a0 + 6) 6, vr 100 (a0 + 5) 6, vr 100 (a0 + 4) 5, vr 100 (a0 + 3) 5, vr 100 (a0 + 2) 5, vr 102 (a0 + 1) 120]) (cells' := 11) (slots' := 1443) rfl rfl rfl ?_
  refine p_putaF (c := 11) dX11_init_87 19 tb_912 (by decide) (by decide) (Or.inr rfl) h0 rfl rfl rfl rfl rfl (by decide) (fun q => absurd q (by decide)) (up h32 a0 19 (a0 + 11)) rfl ?_
  replace hf := hb_e hf
  generalize up h32 a0 19 (a0 + 11) = h33 at hf ⊢
  refine p_aload_n dX11_init_90 rfl 0 rfl ?_
  refine p_bipush dX11_init_91 (by decide) (by decide) ?_
  obtain ⟨c34, hf⟩ := hf
  refine p_newa (t := 100) (ti := 0) (ty := .int) (z := a0 + 12) dX11_init_93 rfl (Or.inl ⟨rfl, rfl⟩) rfl tb_75 (by decide) c34 ⟨by decide, by decide⟩ ?_
  replace hf := hb_e hf
  generalize nw h33 (fun _ => 0) = h35 at hf ⊢
  refine p_norm (kn' := [vr 100 (a0 + 12) 24, vr 100 (a0 + 11) 6, vr 100 (a0 + 10) 1200, vr 100 (a0 + 9) 30, vr 100 (a0 + 8) 30, vr 100 (a0 + 7) 30, vr 100 (a0 + 6) 6, vr 100 (a0 + 5) 6, vr 100 (a0 + 4) 5, vr 100 (a0 + 3) 5, vr 100 (a0 + 2) 5, vr 102 (a0 + 1) 120]) (cells' := 12) (slots' := 1467) rfl rfl rfl ?_
  refine p_putaF (c := 11) dX11_init_95 20 tb_913 (by decide) (by decide) (Or.inr rfl) h0 rfl rfl rfl rfl rfl (by decide) (fun q => absurd q (by decide)) (up h35 a0 20 (a0 + 12)) rfl ?_
  replace hf := hb_e hf
  generalize up h35 a0 20 (a0 + 12) = h36 at hf ⊢
  refine p_aload_n dX11_init_98 rfl 0 rfl ?_
  refine p_bipush dX11_init_99 (by decide) (by decide) ?_
  obtain ⟨c37, hf⟩ := hf
  refine p_newa (t := 100) (ti := 0) (ty := .int) (z := a0 + 13) dX11_init_101 rfl (Or.inl ⟨rfl, rfl⟩) rfl tb_75 (by decide) c37 ⟨by decide, by decide⟩ ?_
  replace hf := hb_e hf
  generalize nw h36 (fun _ => 0) = h38 at hf ⊢
  refine p_norm (kn' := [vr 100 (a0 + 13) 6, vr 100 (a0 + 12) 24, vr 100 (a0 + 11) 6, vr 100 (a0 + 10) 1200, vr 100 (a0 + 9) 30, vr 100 (a0 + 8) 30, vr 100 (a0 + 7) 30, vr 100 (a0 + 6) 6, vr 100 (a0 + 5) 6, vr 100 (a0 + 4) 5, vr 100 (a0 + 3) 5, vr 100 (a0 + 2) 5, vr 102 (a0 + 1) 120]) (cells' := 13) (slots' := 1473) rfl rfl rfl ?_
  refine p_putaF (c := 11) dX11_init_103 21 tb_914 (by decide) (by decide) (Or.inr rfl) h0 rfl rfl rfl rfl rfl (by decide) (fun q => absurd q (by decide)) (up h38 a0 21 (a0 + 13)) rfl ?_
  replace hf := hb_e hf
  generalize up h38 a0 21 (a0 + 13) = h39 at hf ⊢
  refine p_aload_n dX11_init_106 rfl 0 rfl ?_
  refine p_bipush dX11_init_107 (by decide) (by decide) ?_
  obtain ⟨c40, hf⟩ := hf
  refine p_newa (t := 100) (ti := 0) (ty := .int) (z := a0 + 14) dX11_init_109 rfl (Or.inl ⟨rfl, rfl⟩) rfl tb_75 (by decide) c40 ⟨by decide, by decide⟩ ?_
  replace hf := hb_e hf
  generalize nw h39 (fun _ => 0) = h41 at hf ⊢
  refine p_norm (kn' := [vr 100 (a0 + 14) 18, vr 100 (a0 + 13) 6, vr 100 (a0 + 12) 24, vr 100 (a0 + 11) 6, vr 100 (a0 + 10) 1200, vr 100 (a0 + 9) 30, vr 100 (a0 + 8) 30, vr 100 (a0 + 7) 30, vr 100 (a0 + 6) 6, vr 100 (a0 + 5) 6, vr 100 (a0 + 4) 5, vr 100 (a0 + 3) 5, vr 100 (a0 + 2) 5, vr 102 (a0 + 1) 120]) (cells' := 14) (slots' := 1491) rfl rfl rfl ?_
  refine p_putaF (c := 11) dX11_init_111 22 tb_915 (by decide) (by decide) (Or.inr rfl) h0 rfl rfl rfl rfl rfl (by decide) (fun q => absurd q (by decide)) (up h41 a0 22 (a0 + 14)) rfl ?_
  replace hf := hb_e hf
  generalize up h41 a0 22 (a0 + 14) = h42 at hf ⊢
  refine p_aload_n dX11_init_114 rfl 0 rfl ?_
  refine p_bipush dX11_init_115 (by decide) (by decide) ?_
  obtain ⟨c43, hf⟩ := hf
  refine p_newa (t := 100) (ti := 0) (ty := .int) (z := a0 + 15) dX11_init_117 rfl (Or.inl ⟨rfl, rfl⟩) rfl tb_75 (by decide) c43 ⟨by decide, by decide⟩ ?_
  replace hf := hb_e hf
  generalize nw h42 (fun _ => 0) = h44 at hf ⊢
  refine p_norm (kn' := [vr 100 (a0 + 15) 18, vr 100 (a0 + 14) 18, vr 100 (a0 + 13) 6, vr 100 (a0 + 12) 24, vr 100 (a0 + 11) 6, vr 100 (a0 + 10) 1200, vr 100 (a0 + 9) 30, vr 100 (a0 + 8) 30, vr 100 (a0 + 7) 30, vr 100 (a0 + 6) 6, vr 100 (a0 + 5) 6, vr 100 (a0 + 4) 5, vr 100 (a0 + 3) 5, vr 100 (a0 + 2) 5, vr 102 (a0 + 1) 120]) (cells' := 15) (slots' := 1509) rfl rfl rfl ?_
  refine p_putaF (c := 11) dX11_init_119 23 tb_916 (by decide) (by decide) (Or.inr rfl) h0 rfl rfl rfl rfl rfl (by decide) (fun q => absurd q (by decide)) (up h44 a0 23 (a0 + 15)) rfl ?_
  replace hf := hb_e hf
  generalize up h44 a0 23 (a0 + 15) = h45 at hf ⊢
  refine p_aload_n dX11_init_122 rfl 0 rfl ?_
  refine p_bipush dX11_init_123 (by decide) (by decide) ?_
  obtain ⟨c46, hf⟩ := hf
  refine p_newa (t := 100) (ti := 0) (ty := .int) (z := a0 + 16) dX11_init_125 rfl (Or.inl ⟨rfl, rfl⟩) rfl tb_75 (by decide) c46 ⟨by decide, by decide⟩ ?_
  replace hf := hb_e hf
  generalize nw h45 (fun _ => 0) = h47 at hf ⊢
  refine p_norm (kn' := [vr 100 (a0 + 16) 6, vr 100 (a0 + 15) 18, vr 100 (a0 + 14) 18, vr 100 (a0 + 13) 6, vr 100 (a0 + 12) 24, vr 100 (a0 + 11) 6, vr 100 (a0 + 10) 1200, vr 100 (a0 + 9) 30, vr 100 (a0 + 8) 30, vr 100 (a0 + 7) 30, vr 100 (a0 + 6) 6, vr 100 (a0 + 5) 6, vr 100 (a0 + 4) 5, vr 100 (a0 + 3) 5, vr 100 (a0 + 2) 5, vr 102 (a0 + 1) 120]) (cells' := 16) (slots' := 1515) rfl rfl rfl ?_
  refine p_putaF (c := 11) dX11_init_127 24 tb_917 (by decide) (by decide) (Or.inr rfl) h0 rfl rfl rfl rfl rfl (by decide) (fun q => absurd q (by decide)) (up h47 a0 24 (a0 + 16)) rfl ?_
  replace hf := hb_e hf
  generalize up h47 a0 24 (a0 + 16) = h48 at hf ⊢
  refine p_aload_n dX11_init_130 rfl 0 rfl ?_
  refine p_bipush dX11_init_131 (by decide) (by decide) ?_
  obtain ⟨c49, hf⟩ := hf
  refine p_newa (t := 100) (ti := 0) (ty := .int) (z := a0 + 17) dX11_init_133 rfl (Or.inl ⟨rfl, rfl⟩) rfl tb_75 (by decide) c49 ⟨by decide, by decide⟩ ?_
  replace hf := hb_e hf
  generalize nw h48 (fun _ => 0) = h50 at hf ⊢
  refine p_norm (kn' := [vr 100 (a0 + 17) 6, vr 100 (a0 + 16) 6, vr 100 (a0 + 15) 18, vr 100 (a0 + 14) 18, vr 100 (a0 + 13) 6, vr 100 (a0 + 12) 24, vr 100 (a0 + 11) 6, vr 100 (a0 + 10) 1200, vr 100 (a0 + 9) 30, vr 100 (a0 + 8) 30, vr 100 (a0 + 7) 30, vr 100 (a0 + 6) 6, vr 100 (a0 + 5) 6, vr 100 (a0 + 4) 5, vr 100 (a0 + 3) 5, vr 100 (a0 + 2) 5, vr 102 (a0 + 1) 120]) (cells' := 17) (slots' := 1521) rfl rfl rfl ?_
  refine p_putaF (c := 11) dX11_init_135 25 tb_918 (by decide) (by decide) (Or.inr rfl) h0 rfl rfl rfl rfl rfl (by decide) (fun q => absurd q (by decide)) (up h50 a0 25 (a0 + 17)) rfl ?_
  replace hf := hb_e hf
  generalize up h50 a0 25 (a0 + 17) = h51 at hf ⊢
  refine p_aload_n dX11_init_138 rfl 0 rfl ?_
  refine p_bipush dX11_init_139 (by decide) (by decide) ?_
  obtain ⟨c52, hf⟩ := hf
  refine p_newa (t := 100) (ti := 0) (ty := .int) (z := a0 + 18) dX11_init_141 rfl (Or.inl ⟨rfl, rfl⟩) rfl tb_75 (by decide) c52 ⟨by decide, by decide⟩ ?_
  replace hf := hb_e hf
  generalize nw h51 (fun _ => 0) = h53 at hf ⊢
  refine p_norm (kn' := [vr 100 (a0 + 18) 6, vr 100 (a0 + 17) 6, vr 100 (a0 + 16) 6, vr 100 (a0 + 15) 18, vr 100 (a0 + 14) 18, vr 100 (a0 + 13) 6, vr 100 (a0 + 12) 24, vr 100 (a0 + 11) 6, vr 100 (a0 + 10) 1200, vr 100 (a0 + 9) 30, vr 100 (a0 + 8) 30, vr 100 (a0 + 7) 30, vr 100 (a0 + 6) 6, vr 100 (a0 + 5) 6, vr 100 (a0 + 4) 5, vr 100 (a0 + 3) 5, vr 100 (a0 + 2) 5, vr 102 (a0 + 1) 120]) (cells' := 18) (slots' := 1527) rfl rfl rfl ?_
  refine p_putaF (c := 11) dX11_init_143 26 tb_919 (by decide) (by decide) (Or.inr rfl) h0 rfl rfl rfl rfl rfl (by decide) (fun q => absurd q (by decide)) (up h53 a0 26 (a0 + 18)) rfl ?_
  replace hf := hb_e hf
  generalize up h53 a0 26 (a0 + 18) = h54 at hf ⊢
  refine p_aload_n dX11_init_146 rfl 0 rfl ?_
  refine p_iconst dX11_init_147 (by decide) ?_
  refine p_puti (c := 11) dX11_init_148 27 tb_920 (by decide) (by decide) (Or.inr rfl) h0 rfl rfl (fun q => absurd q (by decide)) (up h54 a0 27 (-1)) rfl ?_
  replace hf := hb_e hf
  generalize up h54 a0 27 (-1) = h55 at hf ⊢
  refine p_aload_n dX11_init_151 rfl 0 rfl ?_
  refine p_iconst dX11_init_152 (by decide) ?_
  obtain ⟨c56, hf⟩ := hf
  refine p_newa (t := 100) (ti := 0) (ty := .int) (z := a0 + 19) dX11_init_153 rfl (Or.inl ⟨rfl, rfl⟩) rfl tb_75 (by decide) c56 ⟨by decide, by decide⟩ ?_
  replace hf := hb_e hf
  generalize nw h55 (fun _ => 0) = h57 at hf ⊢
  refine p_norm (kn' := [vr 100 (a0 + 19) 4, vr 100 (a0 + 18) 6, vr 100 (a0 + 17) 6, vr 100 (a0 + 16) 6, vr 100 (a0 + 15) 18, vr 100 (a0 + 14) 18, vr 100 (a0 + 13) 6, vr 100 (a0 + 12) 24, vr 100 (a0 + 11) 6, vr 100 (a0 + 10) 1200, vr 100 (a0 + 9) 30, vr 100 (a0 + 8) 30, vr 100 (a0 + 7) 30, vr 100 (a0 + 6) 6, vr 100 (a0 + 5) 6, vr 100 (a0 + 4) 5, vr 100 (a0 + 3) 5, vr 100 (a0 + 2) 5, vr 102 (a0 + 1) 120]) (cells' := 19) (slots' := 1531) rfl rfl rfl ?_
  refine p_putaF (c := 11) dX11_init_155 28 tb_921 (by decide) (by decide) (Or.inr rfl) h0 rfl rfl rfl rfl rfl (by decide) (fun q => absurd q (by decide)) (up h57 a0 28 (a0 + 19)) rfl ?_
  replace hf := hb_e hf
  generalize up h57 a0 28 (a0 + 19) = h58 at hf ⊢
  refine p_aload_n dX11_init_158 rfl 0 rfl ?_
  refine p_bipush dX11_init_159 (by decide) (by decide) ?_
  obtain ⟨c59, hf⟩ := hf
  refine p_newa (t := 100) (ti := 0) (ty := .int) (z := a0 + 20) dX11_init_161 rfl (Or.inl ⟨rfl, rfl⟩) rfl tb_75 (by decide) c59 ⟨by decide, by decide⟩ ?_
  replace hf := hb_e hf
  generalize nw h58 (fun _ => 0) = h60 at hf ⊢
  refine p_norm (kn' := [vr 100 (a0 + 20) 40, vr 100 (a0 + 19) 4, vr 100 (a0 + 18) 6, vr 100 (a0 + 17) 6, vr 100 (a0 + 16) 6, vr 100 (a0 + 15) 18, vr 100 (a0 + 14) 18, vr 100 (a0 + 13) 6, vr 100 (a0 + 12) 24, vr 100 (a0 + 11) 6, vr 100 (a0 + 10) 1200, vr 100 (a0 + 9) 30, vr 100 (a0 + 8) 30, vr 100 (a0 + 7) 30, vr 100 (a0 + 6) 6, vr 100 (a0 + 5) 6, vr 100 (a0 + 4) 5, vr 100 (a0 + 3) 5, vr 100 (a0 + 2) 5, vr 102 (a0 + 1) 120]) (cells' := 20) (slots' := 1571) rfl rfl rfl ?_
  refine p_putaF (c := 11) dX11_init_163 31 tb_924 (by decide) (by decide) (Or.inr rfl) h0 rfl rfl rfl rfl rfl (by decide) (fun q => absurd q (by decide)) (up h60 a0 31 (a0 + 20)) rfl ?_
  replace hf := hb_e hf
  generalize up h60 a0 31 (a0 + 20) = h61 at hf ⊢
  refine p_aload_n dX11_init_166 rfl 0 rfl ?_
  refine p_bipush dX11_init_167 (by decide) (by decide) ?_
  obtain ⟨c62, hf⟩ := hf
  refine p_newa (t := 100) (ti := 0) (ty := .int) (z := a0 + 21) dX11_init_169 rfl (Or.inl ⟨rfl, rfl⟩) rfl tb_75 (by decide) c62 ⟨by decide, by decide⟩ ?_
  replace hf := hb_e hf
  generalize nw h61 (fun _ => 0) = h63 at hf ⊢
  refine p_norm (kn' := [vr 100 (a0 + 21) 40, vr 100 (a0 + 20) 40, vr 100 (a0 + 19) 4, vr 100 (a0 + 18) 6, vr 100 (a0 + 17) 6, vr 100 (a0 + 16) 6, vr 100 (a0 + 15) 18, vr 100 (a0 + 14) 18, vr 100 (a0 + 13) 6, vr 100 (a0 + 12) 24, vr 100 (a0 + 11) 6, vr 100 (a0 + 10) 1200, vr 100 (a0 + 9) 30, vr 100 (a0 + 8) 30, vr 100 (a0 + 7) 30, vr 100 (a0 + 6) 6, vr 100 (a0 + 5) 6, vr 100 (a0 + 4) 5, vr 100 (a0 + 3) 5, vr 100 (a0 + 2) 5, vr 102 (a0 + 1) 120]) (cells' := 21) (slots' := 1611) rfl rfl rfl ?_
  refine p_putaF (c := 11) dX11_init_171 32 tb_925 (by decide) (by decide) (Or.inr rfl) h0 rfl rfl rfl rfl rfl (by decide) (fun q => absurd q (by decide)) (up h63 a0 32 (a0 + 21)) rfl ?_
  replace hf := hb_e hf
  generalize up h63 a0 32 (a0 + 21) = h64 at hf ⊢
  refine p_aload_n dX11_init_174 rfl 0 rfl ?_
  refine p_bipush dX11_init_175 (by decide) (by decide) ?_
  obtain ⟨c65, hf⟩ := hf
  refine p_newa (t := 100) (ti := 0) (ty := .int) (z := a0 + 22) dX11_init_177 rfl (Or.inl ⟨rfl, rfl⟩) rfl tb_75 (by decide) c65 ⟨by decide, by decide⟩ ?_
  replace hf := hb_e hf
  generalize nw h64 (fun _ => 0) = h66 at hf ⊢
  refine p_norm (kn' := [vr 100 (a0 + 22) 40, vr 100 (a0 + 21) 40, vr 100 (a0 + 20) 40, vr 100 (a0 + 19) 4, vr 100 (a0 + 18) 6, vr 100 (a0 + 17) 6, vr 100 (a0 + 16) 6, vr 100 (a0 + 15) 18, vr 100 (a0 + 14) 18, vr 100 (a0 + 13) 6, vr 100 (a0 + 12) 24, vr 100 (a0 + 11) 6, vr 100 (a0 + 10) 1200, vr 100 (a0 + 9) 30, vr 100 (a0 + 8) 30, vr 100 (a0 + 7) 30, vr 100 (a0 + 6) 6, vr 100 (a0 + 5) 6, vr 100 (a0 + 4) 5, vr 100 (a0 + 3) 5, vr 100 (a0 + 2) 5, vr 102 (a0 + 1) 120]) (cells' := 22) (slots' := 1651) rfl rfl rfl ?_
  refine p_putaF (c := 11) dX11_init_179 33 tb_926 (by decide) (by decide) (Or.inr rfl) h0 rfl rfl rfl rfl rfl (by decide) (fun q => absurd q (by decide)) (up h66 a0 33 (a0 + 22)) rfl ?_
  replace hf := hb_e hf
  generalize up h66 a0 33 (a0 + 22) = h67 at hf ⊢
  refine p_aload_n dX11_init_182 rfl 0 rfl ?_
  refine p_bipush dX11_init_183 (by decide) (by decide) ?_
  obtain ⟨c68, hf⟩ := hf
  refine p_newa (t := 100) (ti := 0) (ty := .int) (z := a0 + 23) dX11_init_185 rfl (Or.inl ⟨rfl, rfl⟩) rfl tb_75 (by decide) c68 ⟨by decide, by decide⟩ ?_
  replace hf := hb_e hf
  generalize nw h67 (fun _ => 0) = h69 at hf ⊢
  refine p_norm (kn' := [vr 100 (a0 + 23) 40, vr 100 (a0 + 22) 40, vr 100 (a0 + 21) 40, vr 100 (a0 + 20) 40, vr 100 (a0 + 19) 4, vr 100 (a0 + 18) 6, vr 100 (a0 + 17) 6, vr 100 (a0 + 16) 6, vr 100 (a0 + 15) 18, vr 100 (a0 + 14) 18, vr 100 (a0 + 13) 6, vr 100 (a0 + 12) 24, vr 100 (a0 + 11) 6, vr 100 (a0 + 10) 1200, vr 100 (a0 + 9) 30, vr 100 (a0 + 8) 30, vr 100 (a0 + 7) 30, vr 100 (a0 + 6) 6, vr 100 (a0 + 5) 6, vr 100 (a0 + 4) 5, vr 100 (a0 + 3) 5, vr 100 (a0 + 2) 5, vr 102 (a0 + 1) 120]) (cells' := 23) (slots' := 1691) rfl rfl rfl ?_
  refine p_putaF (c := 11) dX11_init_187 34 tb_927 (by decide) (by decide) (Or.inr rfl) h0 rfl rfl rfl rfl rfl (by decide) (fun q => absurd q (by decide)) (up h69 a0 34 (a0 + 23)) rfl ?_
  replace hf := hb_e hf
  generalize up h69 a0 34 (a0 + 23) = h70 at hf ⊢
  refine p_aload_n dX11_init_190 rfl 0 rfl ?_
  refine p_bipush dX11_init_191 (by decide) (by decide) ?_
  obtain ⟨c71, hf⟩ := hf
  refine p_newa (t := 100) (ti := 0) (ty := .int) (z := a0 + 24) dX11_init_193 rfl (Or.inl ⟨rfl, rfl⟩) rfl tb_75 (by decide) c71 ⟨by decide, by decide⟩ ?_
  replace hf := hb_e hf
  generalize nw h70 (fun _ => 0) = h72 at hf ⊢
  refine p_norm (kn' := [vr 100 (a0 + 24) 40, vr 100 (a0 + 23) 40, vr 100 (a0 + 22) 40, vr 100 (a0 + 21) 40, vr 100 (a0 + 20) 40, vr 100 (a0 + 19) 4, vr 100 (a0 + 18) 6, vr 100 (a0 + 17) 6, vr 100 (a0 + 16) 6, vr 100 (a0 + 15) 18, vr 100 (a0 + 14) 18, vr 100 (a0 + 13) 6, vr 100 (a0 + 12) 24, vr 100 (a0 + 11) 6, vr 100 (a0 + 10) 1200, vr 100 (a0 + 9) 30, vr 100 (a0 + 8) 30, vr 100 (a0 + 7) 30, vr 100 (a0 + 6) 6, vr 100 (a0 + 5) 6, vr 100 (a0 + 4) 5, vr 100 (a0 + 3) 5, vr 100 (a0 + 2) 5, vr 102 (a0 + 1) 120]) (cells' := 24) (slots' := 1731) rfl rfl rfl ?_
  refine p_putaF (c := 11) dX11_init_195 35 tb_928 (by decide) (by decide) (Or.inr rfl) h0 rfl rfl rfl rfl rfl (by decide) (fun q => absurd q (by decide)) (up h72 a0 35 (a0 + 24)) rfl ?_
  replace hf := hb_e hf
  generalize up h72 a0 35 (a0 + 24) = h73 at hf ⊢
  refine p_aload_n dX11_init_198 rfl 0 rfl ?_
  refine p_bipush dX11_init_199 (by decide) (by decide) ?_
  obtain ⟨c74, hf⟩ := hf
  refine p_newa (t := 100) (ti := 0) (ty := .int) (z := a0 + 25) dX11_init_201 rfl (Or.inl ⟨rfl, rfl⟩) rfl tb_75 (by decide) c74 ⟨by decide, by decide⟩ ?_
  replace hf := hb_e hf
  generalize nw h73 (fun _ => 0) = h75 at hf ⊢
  refine p_norm (kn' := [vr 100 (a0 + 25) 60, vr 100 (a0 + 24) 40, vr 100 (a0 + 23) 40, vr 100 (a0 + 22) 40, vr 100 (a0 + 21) 40, vr 100 (a0 + 20) 40, vr 100 (a0 + 19) 4, vr 100 (a0 + 18) 6, vr 100 (a0 + 17) 6, vr 100 (a0 + 16) 6, vr 100 (a0 + 15) 18, vr 100 (a0 + 14) 18, vr 100 (a0 + 13) 6, vr 100 (a0 + 12) 24, vr 100 (a0 + 11) 6, vr 100 (a0 + 10) 1200, vr 100 (a0 + 9) 30, vr 100 (a0 + 8) 30, vr 100 (a0 + 7) 30, vr 100 (a0 + 6) 6, vr 100 (a0 + 5) 6, vr 100 (a0 + 4) 5, vr 100 (a0 + 3) 5, vr 100 (a0 + 2) 5, vr 102 (a0 + 1) 120]) (cells' := 25) (slots' := 1791) rfl rfl rfl ?_
  refine p_putaF (c := 11) dX11_init_203 37 tb_930 (by decide) (by decide) (Or.inr rfl) h0 rfl rfl rfl rfl rfl (by decide) (fun q => absurd q (by decide)) (up h75 a0 37 (a0 + 25)) rfl ?_
  replace hf := hb_e hf
  generalize up h75 a0 37 (a0 + 25) = h76 at hf ⊢
  refine p_aload_n dX11_init_206 rfl 0 rfl ?_
  refine p_bipush dX11_init_207 (by decide) (by decide) ?_
  obtain ⟨c77, hf⟩ := hf
  refine p_newa (t := 100) (ti := 0) (ty := .int) (z := a0 + 26) dX11_init_209 rfl (Or.inl ⟨rfl, rfl⟩) rfl tb_75 (by decide) c77 ⟨by decide, by decide⟩ ?_
  replace hf := hb_e hf
  generalize nw h76 (fun _ => 0) = h78 at hf ⊢
  refine p_norm (kn' := [vr 100 (a0 + 26) 60, vr 100 (a0 + 25) 60, vr 100 (a0 + 24) 40, vr 100 (a0 + 23) 40, vr 100 (a0 + 22) 40, vr 100 (a0 + 21) 40, vr 100 (a0 + 20) 40, vr 100 (a0 + 19) 4, vr 100 (a0 + 18) 6, vr 100 (a0 + 17) 6, vr 100 (a0 + 16) 6, vr 100 (a0 + 15) 18, vr 100 (a0 + 14) 18, vr 100 (a0 + 13) 6, vr 100 (a0 + 12) 24, vr 100 (a0 + 11) 6, vr 100 (a0 + 10) 1200, vr 100 (a0 + 9) 30, vr 100 (a0 + 8) 30, vr 100 (a0 + 7) 30, vr 100 (a0 + 6) 6, vr 100 (a0 + 5) 6, vr 100 (a0 + 4) 5, vr 100 (a0 + 3) 5, vr 100 (a0 + 2) 5, vr 102 (a0 + 1) 120]) (cells' := 26) (slots' := 1851) rfl rfl rfl ?_
  refine p_putaF (c := 11) dX11_init_211 38 tb_931 (by decide) (by decide) (Or.inr rfl) h0 rfl rfl rfl rfl rfl (by decide) (fun q => absurd q (by decide)) (up h78 a0 38 (a0 + 26)) rfl ?_
  replace hf := hb_e hf
  generalize up h78 a0 38 (a0 + 26) = h79 at hf ⊢
  refine p_aload_n dX11_init_214 rfl 0 rfl ?_
  refine p_sipush dX11_init_215 (by decide) (by decide) ?_
  obtain ⟨c80, hf⟩ := hf
  refine p_newa (t := 100) (ti := 0) (ty := .int) (z := a0 + 27) dX11_init_218 rfl (Or.inl ⟨rfl, rfl⟩) rfl tb_75 (by decide) c80 ⟨by decide, by decide⟩ ?_
  replace hf := hb_e hf
  generalize nw h79 (fun _ => 0) = h81 at hf ⊢
  refine p_norm (kn' := [vr 100 (a0 + 27) 240, vr 100 (a0 + 26) 60, vr 100 (a0 + 25) 60, vr 100 (a0 + 24) 40, vr 100 (a0 + 23) 40, vr 100 (a0 + 22) 40, vr 100 (a0 + 21) 40, vr 100 (a0 + 20) 40, vr 100 (a0 + 19) 4, vr 100 (a0 + 18) 6, vr 100 (a0 + 17) 6, vr 100 (a0 + 16) 6, vr 100 (a0 + 15) 18, vr 100 (a0 + 14) 18, vr 100 (a0 + 13) 6, vr 100 (a0 + 12) 24, vr 100 (a0 + 11) 6, vr 100 (a0 + 10) 1200, vr 100 (a0 + 9) 30, vr 100 (a0 + 8) 30, vr 100 (a0 + 7) 30, vr 100 (a0 + 6) 6, vr 100 (a0 + 5) 6, vr 100 (a0 + 4) 5, vr 100 (a0 + 3) 5, vr 100 (a0 + 2) 5, vr 102 (a0 + 1) 120]) (cells' := 27) (slots' := 2091) rfl rfl rfl ?_
  refine p_putaF (c := 11) dX11_init_220 39 tb_932 (by decide) (by decide) (Or.inr rfl) h0 rfl rfl rfl rfl rfl (by decide) (fun q => absurd q (by decide)) (up h81 a0 39 (a0 + 27)) rfl ?_
  replace hf := hb_e hf
  generalize up h81 a0 39 (a0 + 27) = h82 at hf ⊢
  refine p_aload_n dX11_init_223 rfl 0 rfl ?_
  refine p_bipush dX11_init_224 (by decide) (by decide) ?_
  obtain ⟨c83, hf⟩ := hf
  refine p_newa (t := 100) (ti := 0) (ty := .int) (z := a0 + 28) dX11_init_226 rfl (Or.inl ⟨rfl, rfl⟩) rfl tb_75 (by decide) c83 ⟨by decide, by decide⟩ ?_
  replace hf := hb_e hf
  generalize nw h82 (fun _ => 0) = h84 at hf ⊢
  refine p_norm (kn' := [vr 100 (a0 + 28) 60, vr 100 (a0 + 27) 240, vr 100 (a0 + 26) 60, vr 100 (a0 + 25) 60, vr 100 (a0 + 24) 40, vr 100 (a0 + 23) 40, vr 100 (a0 + 22) 40, vr 100 (a0 + 21) 40, vr 100 (a0 + 20) 40, vr 100 (a0 + 19) 4, vr 100 (a0 + 18) 6, vr 100 (a0 + 17) 6, vr 100 (a0 + 16) 6, vr 100 (a0 + 15) 18, vr 100 (a0 + 14) 18, vr 100 (a0 + 13) 6, vr 100 (a0 + 12) 24, vr 100 (a0 + 11) 6, vr 100 (a0 + 10) 1200, vr 100 (a0 + 9) 30, vr 100 (a0 + 8) 30, vr 100 (a0 + 7) 30, vr 100 (a0 + 6) 6, vr 100 (a0 + 5) 6, vr 100 (a0 + 4) 5, vr 100 (a0 + 3) 5, vr 100 (a0 + 2) 5, vr 102 (a0 + 1) 120]) (cells' := 28) (slots' := 2151) rfl rfl rfl ?_
  refine p_putaF (c := 11) dX11_init_228 40 tb_933 (by decide) (by decide) (Or.inr rfl) h0 rfl rfl rfl rfl rfl (by decide) (fun q => absurd q (by decide)) (up h84 a0 40 (a0 + 28)) rfl ?_
  replace hf := hb_e hf
  generalize up h84 a0 40 (a0 + 28) = h85 at hf ⊢
  refine p_aload_n dX11_init_231 rfl 0 rfl ?_
  refine p_bipush dX11_init_232 (by decide) (by decide) ?_
  obtain ⟨c86, hf⟩ := hf
  refine p_newa (t := 100) (ti := 0) (ty := .int) (z := a0 + 29) dX11_init_234 rfl (Or.inl ⟨rfl, rfl⟩) rfl tb_75 (by decide) c86 ⟨by decide, by decide⟩ ?_
  replace hf := hb_e hf
  generalize nw h85 (fun _ => 0) = h87 at hf ⊢
  refine p_norm (kn' := [vr 100 (a0 + 29) 60, vr 100 (a0 + 28) 60, vr 100 (a0 + 27) 240, vr 100 (a0 + 26) 60, vr 100 (a0 + 25) 60, vr 100 (a0 + 24) 40, vr 100 (a0 + 23) 40, vr 100 (a0 + 22) 40, vr 100 (a0 + 21) 40, vr 100 (a0 + 20) 40, vr 100 (a0 + 19) 4, vr 100 (a0 + 18) 6, vr 100 (a0 + 17) 6, vr 100 (a0 + 16) 6, vr 100 (a0 + 15) 18, vr 100 (a0 + 14) 18, vr 100 (a0 + 13) 6, vr 100 (a0 + 12) 24, vr 100 (a0 + 11) 6, vr 100 (a0 + 10) 1200, vr 100 (a0 + 9) 30, vr 100 (a0 + 8) 30, vr 100 (a0 + 7) 30, vr 100 (a0 + 6) 6, vr 100 (a0 + 5) 6, vr 100 (a0 + 4) 5, vr 100 (a0 + 3) 5, vr 100 (a0 + 2) 5, vr 102 (a0 + 1) 120]) (cells' := 29) (slots' := 2211) rfl rfl rfl ?_
  refine p_putaF (c := 11) dX11_init_236 41 tb_934 (by decide) (by decide) (Or.inr rfl) h0 rfl rfl rfl rfl rfl (by decide) (fun q => absurd q (by decide)) (up h87 a0 41 (a0 + 29)) rfl ?_
  replace hf := hb_e hf
  generalize up h87 a0 41 (a0 + 29) = h88 at hf ⊢
  refine p_aload_n dX11_init_239 rfl 0 rfl ?_
  refine p_iconst dX11_init_240 (by decide) ?_
  obtain ⟨c89, hf⟩ := hf
  refine p_newa (t := 100) (ti := 0) (ty := .int) (z := a0 + 30) dX11_init_241 rfl (Or.inl ⟨rfl, rfl⟩) rfl tb_75 (by decide) c89 ⟨by decide, by decide⟩ ?_
  replace hf := hb_e hf
  generalize nw h88 (fun _ => 0) = h90 at hf ⊢
  refine p_norm (kn' := [vr 100 (a0 + 30) 4, vr 100 (a0 + 29) 60, vr 100 (a0 + 28) 60, vr 100 (a0 + 27) 240, vr 100 (a0 + 26) 60, vr 100 (a0 + 25) 60, vr 100 (a0 + 24) 40, vr 100 (a0 + 23) 40, vr 100 (a0 + 22) 40, vr 100 (a0 + 21) 40, vr 100 (a0 + 20) 40, vr 100 (a0 + 19) 4, vr 100 (a0 + 18) 6, vr 100 (a0 + 17) 6, vr 100 (a0 + 16) 6, vr 100 (a0 + 15) 18, vr 100 (a0 + 14) 18, vr 100 (a0 + 13) 6, vr 100 (a0 + 12) 24, vr 100 (a0 + 11) 6, vr 100 (a0 + 10) 1200, vr 100 (a0 + 9) 30, vr 100 (a0 + 8) 30, vr 100 (a0 + 7) 30, vr 100 (a0 + 6) 6, vr 100 (a0 + 5) 6, vr 100 (a0 + 4) 5, vr 100 (a0 + 3) 5, vr 100 (a0 + 2) 5, vr 102 (a0 + 1) 120]) (cells' := 30) (slots' := 2215) rfl rfl rfl ?_
  refine p_putaF (c := 11) dX11_init_243 43 tb_936 (by decide) (by decide) (Or.inr rfl) h0 rfl rfl rfl rfl rfl (by decide) (fun q => absurd q (by decide)) (up h90 a0 43 (a0 + 30)) rfl ?_
  replace hf := hb_e hf
  generalize up h90 a0 43 (a0 + 30) = h91 at hf ⊢
  refine p_aload_n dX11_init_246 rfl 0 rfl ?_
  refine p_iconst dX11_init_247 (by decide) ?_
  obtain ⟨c92, hf⟩ := hf
  refine p_newa (t := 100) (ti := 0) (ty := .int) (z := a0 + 31) dX11_init_248 rfl (Or.inl ⟨rfl, rfl⟩) rfl tb_75 (by decide) c92 ⟨by decide, by decide⟩ ?_
  replace hf := hb_e hf
  generalize nw h91 (fun _ => 0) = h93 at hf ⊢
  refine p_norm (kn' := [vr 100 (a0 + 31) 4, vr 100 (a0 + 30) 4, vr 100 (a0 + 29) 60, vr 100 (a0 + 28) 60, vr 100 (a0 + 27) 240, vr 100 (a0 + 26) 60, vr 100 (a0 + 25) 60, vr 100 (a0 + 24) 40, vr 100 (a0 + 23) 40, vr 100 (a0 + 22) 40, vr 100 (a0 + 21) 40, vr 100 (a0 + 20) 40, vr 100 (a0 + 19) 4, vr 100 (a0 + 18) 6, vr 100 (a0 + 17) 6, vr 100 (a0 + 16) 6, vr 100 (a0 + 15) 18, vr 100 (a0 + 14) 18, vr 100 (a0 + 13) 6, vr 100 (a0 + 12) 24, vr 100 (a0 + 11) 6, vr 100 (a0 + 10) 1200, vr 100 (a0 + 9) 30, vr 100 (a0 + 8) 30, vr 100 (a0 + 7) 30, vr 100 (a0 + 6) 6, vr 100 (a0 + 5) 6, vr 100 (a0 + 4) 5, vr 100 (a0 + 3) 5, vr 100 (a0 + 2) 5, vr 102 (a0 + 1) 120]) (cells' := 31) (slots' := 2219) rfl rfl rfl ?_
  refine p_putaF (c := 11) dX11_init_250 44 tb_937 (by decide) (by decide) (Or.inr rfl) h0 rfl rfl rfl rfl rfl (by decide) (fun q => absurd q (by decide)) (up h93 a0 44 (a0 + 31)) rfl ?_
  replace hf := hb_e hf
  generalize up h93 a0 44 (a0 + 31) = h94 at hf ⊢
  refine p_aload_n dX11_init_253 rfl 0 rfl ?_
  refine p_iconst dX11_init_254 (by decide) ?_
  obtain ⟨c95, hf⟩ := hf
  refine p_newa (t := 101) (ti := 1) (ty := .long) (z := a0 + 32) dX11_init_255 rfl (Or.inr (Or.inl ⟨rfl, rfl⟩)) rfl tb_169 (by decide) c95 ⟨by decide, by decide⟩ ?_
  replace hf := hb_e hf
  generalize nw h94 (fun _ => 0) = h96 at hf ⊢
  refine p_norm (kn' := [vr 101 (a0 + 32) 3, vr 100 (a0 + 31) 4, vr 100 (a0 + 30) 4, vr 100 (a0 + 29) 60, vr 100 (a0 + 28) 60, vr 100 (a0 + 27) 240, vr 100 (a0 + 26) 60, vr 100 (a0 + 25) 60, vr 100 (a0 + 24) 40, vr 100 (a0 + 23) 40, vr 100 (a0 + 22) 40, vr 100 (a0 + 21) 40, vr 100 (a0 + 20) 40, vr 100 (a0 + 19) 4, vr 100 (a0 + 18) 6, vr 100 (a0 + 17) 6, vr 100 (a0 + 16) 6, vr 100 (a0 + 15) 18, vr 100 (a0 + 14) 18, vr 100 (a0 + 13) 6, vr 100 (a0 + 12) 24, vr 100 (a0 + 11) 6, vr 100 (a0 + 10) 1200, vr 100 (a0 + 9) 30, vr 100 (a0 + 8) 30, vr 100 (a0 + 7) 30, vr 100 (a0 + 6) 6, vr 100 (a0 + 5) 6, vr 100 (a0 + 4) 5, vr 100 (a0 + 3) 5, vr 100 (a0 + 2) 5, vr 102 (a0 + 1) 120]) (cells' := 32) (slots' := 2222) rfl rfl rfl ?_
  refine p_putaF (c := 11) dX11_init_257 45 tb_938 (by decide) (by decide) (Or.inr rfl) h0 rfl rfl rfl rfl rfl (by decide) (fun q => absurd q (by decide)) (up h96 a0 45 (a0 + 32)) rfl ?_
  replace hf := hb_e hf
  generalize up h96 a0 45 (a0 + 32) = h97 at hf ⊢
  refine p_aload_n dX11_init_260 rfl 0 rfl ?_
  refine p_iconst dX11_init_261 (by decide) ?_
  obtain ⟨c98, hf⟩ := hf
  refine p_newa (t := 101) (ti := 1) (ty := .long) (z := a0 + 33) dX11_init_262 rfl (Or.inr (Or.inl ⟨rfl, rfl⟩)) rfl tb_169 (by decide) c98 ⟨by decide, by decide⟩ ?_
  replace hf := hb_e hf
  generalize nw h97 (fun _ => 0) = h99 at hf ⊢
  refine p_norm (kn' := [vr 101 (a0 + 33) 3, vr 101 (a0 + 32) 3, vr 100 (a0 + 31) 4, vr 100 (a0 + 30) 4, vr 100 (a0 + 29) 60, vr 100 (a0 + 28) 60, vr 100 (a0 + 27) 240, vr 100 (a0 + 26) 60, vr 100 (a0 + 25) 60, vr 100 (a0 + 24) 40, vr 100 (a0 + 23) 40, vr 100 (a0 + 22) 40, vr 100 (a0 + 21) 40, vr 100 (a0 + 20) 40, vr 100 (a0 + 19) 4, vr 100 (a0 + 18) 6, vr 100 (a0 + 17) 6, vr 100 (a0 + 16) 6, vr 100 (a0 + 15) 18, vr 100 (a0 + 14) 18, vr 100 (a0 + 13) 6, vr 100 (a0 + 12) 24, vr 100 (a0 + 11) 6, vr 100 (a0 + 10) 1200, vr 100 (a0 + 9) 30, vr 100 (a0 + 8) 30, vr 100 (a0 + 7) 30, vr 100 (a0 + 6) 6, vr 100 (a0 + 5) 6, vr 100 (a0 + 4) 5, vr 100 (a0 + 3) 5, vr 100 (a0 + 2) 5, vr 102 (a0 + 1) 120]) (cells' := 33) (slots' := 2225) rfl rfl rfl ?_
  refine p_putaF (c := 11) dX11_init_264 46 tb_939 (by decide) (by decide) (Or.inr rfl) h0 rfl rfl rfl rfl rfl (by decide) (fun q => absurd q (by decide)) (up h99 a0 46 (a0 + 33)) rfl ?_
  replace hf := hb_e hf
  generalize up h99 a0 46 (a0 + 33) = h100 at hf ⊢
  refine p_aload_n dX11_init_267 rfl 0 rfl ?_
  refine p_iconst dX11_init_268 (by decide) ?_
  obtain ⟨c101, hf⟩ := hf
  refine p_newa (t := 101) (ti := 1) (ty := .long) (z := a0 + 34) dX11_init_269 rfl (Or.inr (Or.inl ⟨rfl, rfl⟩)) rfl tb_169 (by decide) c101 ⟨by decide, by decide⟩ ?_
  replace hf := hb_e hf
  generalize nw h100 (fun _ => 0) = h102 at hf ⊢
  refine p_norm (kn' := [vr 101 (a0 + 34) 3, vr 101 (a0 + 33) 3, vr 101 (a0 + 32) 3, vr 100 (a0 + 31) 4, vr 100 (a0 + 30) 4, vr 100 (a0 + 29) 60, vr 100 (a0 + 28) 60, vr 100 (a0 + 27) 240, vr 100 (a0 + 26) 60, vr 100 (a0 + 25) 60, vr 100 (a0 + 24) 40, vr 100 (a0 + 23) 40, vr 100 (a0 + 22) 40, vr 100 (a0 + 21) 40, vr 100 (a0 + 20) 40, vr 100 (a0 + 19) 4, vr 100 (a0 + 18) 6, vr 100 (a0 + 17) 6, vr 100 (a0 + 16) 6, vr 100 (a0 + 15) 18, vr 100 (a0 + 14) 18, vr 100 (a0 + 13) 6, vr 100 (a0 + 12) 24, vr 100 (a0 + 11) 6, vr 100 (a0 + 10) 1200, vr 100 (a0 + 9) 30, vr 100 (a0 + 8) 30, vr 100 (a0 + 7) 30, vr 100 (a0 + 6) 6, vr 100 (a0 + 5) 6, vr 100 (a0 + 4) 5, vr 100 (a0 + 3) 5, vr 100 (a0 + 2) 5, vr 102 (a0 + 1) 120]) (cells' := 34) (slots' := 2228) rfl rfl rfl ?_
  refine p_putaF (c := 11) dX11_init_271 47 tb_940 (by decide) (by decide) (Or.inr rfl) h0 rfl rfl rfl rfl rfl (by decide) (fun q => absurd q (by decide)) (up h102 a0 47 (a0 + 34)) rfl ?_
  replace hf := hb_e hf
  generalize up h102 a0 47 (a0 + 34) = h103 at hf ⊢
  refine p_aload_n dX11_init_274 rfl 0 rfl ?_
  refine p_iconst dX11_init_275 (by decide) ?_
  obtain ⟨c104, hf⟩ := hf
  refine p_newa (t := 101) (ti := 1) (ty := .long) (z := a0 + 35) dX11_init_276 rfl (Or.inr (Or.inl ⟨rfl, rfl⟩)) rfl tb_169 (by decide) c104 ⟨by decide, by decide⟩ ?_
  replace hf := hb_e hf
  generalize nw h103 (fun _ => 0) = h105 at hf ⊢
  refine p_norm (kn' := [vr 101 (a0 + 35) 3, vr 101 (a0 + 34) 3, vr 101 (a0 + 33) 3, vr 101 (a0 + 32) 3, vr 100 (a0 + 31) 4, vr 100 (a0 + 30) 4, vr 100 (a0 + 29) 60, vr 100 (a0 + 28) 60, vr 100 (a0 + 27) 240, vr 100 (a0 + 26) 60, vr 100 (a0 + 25) 60, vr 100 (a0 + 24) 40, vr 100 (a0 + 23) 40, vr 100 (a0 + 22) 40, vr 100 (a0 + 21) 40, vr 100 (a0 + 20) 40, vr 100 (a0 + 19) 4, vr 100 (a0 + 18) 6, vr 100 (a0 + 17) 6, vr 100 (a0 + 16) 6, vr 100 (a0 + 15) 18, vr 100 (a0 + 14) 18, vr 100 (a0 + 13) 6, vr 100 (a0 + 12) 24, vr 100 (a0 + 11) 6, vr 100 (a0 + 10) 1200, vr 100 (a0 + 9) 30, vr 100 (a0 + 8) 30, vr 100 (a0 + 7) 30, vr 100 (a0 + 6) 6, vr 100 (a0 + 5) 6, vr 100 (a0 + 4) 5, vr 100 (a0 + 3) 5, vr 100 (a0 + 2) 5, vr 102 (a0 + 1) 120]) (cells' := 35) (slots' := 2231) rfl rfl rfl ?_
  refine p_putaF (c := 11) dX11_init_278 48 tb_941 (by decide) (by decide) (Or.inr rfl) h0 rfl rfl rfl rfl rfl (by decide) (fun q => absurd q (by decide)) (up h105 a0 48 (a0 + 35)) rfl ?_
  replace hf := hb_e hf
  generalize up h105 a0 48 (a0 + 35) = h106 at hf ⊢
  refine p_aload_n dX11_init_281 rfl 0 rfl ?_
  refine p_iconst dX11_init_282 (by decide) ?_
  obtain ⟨c107, hf⟩ := hf
  refine p_newa (t := 100) (ti := 0) (ty := .int) (z := a0 + 36) dX11_init_283 rfl (Or.inl ⟨rfl, rfl⟩) rfl tb_75 (by decide) c107 ⟨by decide, by decide⟩ ?_
  replace hf := hb_e hf
  generalize nw h106 (fun _ => 0) = h108 at hf ⊢
  refine p_norm (kn' := [vr 100 (a0 + 36) 4, vr 101 (a0 + 35) 3, vr 101 (a0 + 34) 3, vr 101 (a0 + 33) 3, vr 101 (a0 + 32) 3, vr 100 (a0 + 31) 4, vr 100 (a0 + 30) 4, vr 100 (a0 + 29) 60, vr 100 (a0 + 28) 60, vr 100 (a0 + 27) 240, vr 100 (a0 + 26) 60, vr 100 (a0 + 25) 60, vr 100 (a0 + 24) 40, vr 100 (a0 + 23) 40, vr 100 (a0 + 22) 40, vr 100 (a0 + 21) 40, vr 100 (a0 + 20) 40, vr 100 (a0 + 19) 4, vr 100 (a0 + 18) 6, vr 100 (a0 + 17) 6, vr 100 (a0 + 16) 6, vr 100 (a0 + 15) 18, vr 100 (a0 + 14) 18, vr 100 (a0 + 13) 6, vr 100 (a0 + 12) 24, vr 100 (a0 + 11) 6, vr 100 (a0 + 10) 1200, vr 100 (a0 + 9) 30, vr 100 (a0 + 8) 30, vr 100 (a0 + 7) 30, vr 100 (a0 + 6) 6, vr 100 (a0 + 5) 6, vr 100 (a0 + 4) 5, vr 100 (a0 + 3) 5, vr 100 (a0 + 2) 5, vr 102 (a0 + 1) 120]) (cells' := 36) (slots' := 2235) rfl rfl rfl ?_
  refine p_putaF (c := 11) dX11_init_285 49 tb_942 (by decide) (by decide) (Or.inr rfl) h0 rfl rfl rfl rfl rfl (by decide) (fun q => absurd q (by decide)) (up h108 a0 49 (a0 + 36)) rfl ?_
  replace hf := hb_e hf
  generalize up h108 a0 49 (a0 + 36) = h109 at hf ⊢
  refine p_aload_n dX11_init_288 rfl 0 rfl ?_
  refine p_bipush dX11_init_289 (by decide) (by decide) ?_
  obtain ⟨c110, hf⟩ := hf
  refine p_newa (t := 100) (ti := 0) (ty := .int) (z := a0 + 37) dX11_init_291 rfl (Or.inl ⟨rfl, rfl⟩) rfl tb_75 (by decide) c110 ⟨by decide, by decide⟩ ?_
  replace hf := hb_e hf
  generalize nw h109 (fun _ => 0) = h111 at hf ⊢
  refine p_norm (kn' := [vr 100 (a0 + 37) 60, vr 100 (a0 + 36) 4, vr 101 (a0 + 35) 3, vr 101 (a0 + 34) 3, vr 101 (a0 + 33) 3, vr 101 (a0 + 32) 3, vr 100 (a0 + 31) 4, vr 100 (a0 + 30) 4, vr 100 (a0 + 29) 60, vr 100 (a0 + 28) 60, vr 100 (a0 + 27) 240, vr 100 (a0 + 26) 60, vr 100 (a0 + 25) 60, vr 100 (a0 + 24) 40, vr 100 (a0 + 23) 40, vr 100 (a0 + 22) 40, vr 100 (a0 + 21) 40, vr 100 (a0 + 20) 40, vr 100 (a0 + 19) 4, vr 100 (a0 + 18) 6, vr 100 (a0 + 17) 6, vr 100 (a0 + 16) 6, vr 100 (a0 + 15) 18, vr 100 (a0 + 14) 18, vr 100 (a0 + 13) 6, vr 100 (a0 + 12) 24, vr 100 (a0 + 11) 6, vr 100 (a0 + 10) 1200, vr 100 (a0 + 9) 30, vr 100 (a0 + 8) 30, vr 100 (a0 + 7) 30, vr 100 (a0 + 6) 6, vr 100 (a0 + 5) 6, vr 100 (a0 + 4) 5, vr 100 (a0 + 3) 5, vr 100 (a0 + 2) 5, vr 102 (a0 + 1) 120]) (cells' := 37) (slots' := 2295) rfl rfl rfl ?_
  refine p_putaF (c := 11) dX11_init_293 54 tb_947 (by decide) (by decide) (Or.inr rfl) h0 rfl rfl rfl rfl rfl (by decide) (fun q => absurd q (by decide)) (up h111 a0 54 (a0 + 37)) rfl ?_
  replace hf := hb_e hf
  generalize up h111 a0 54 (a0 + 37) = h112 at hf ⊢
  refine p_aload_n dX11_init_296 rfl 0 rfl ?_
  refine p_bipush dX11_init_297 (by decide) (by decide) ?_
  obtain ⟨c113, hf⟩ := hf
  refine p_newa (t := 100) (ti := 0) (ty := .int) (z := a0 + 38) dX11_init_299 rfl (Or.inl ⟨rfl, rfl⟩) rfl tb_75 (by decide) c113 ⟨by decide, by decide⟩ ?_
  replace hf := hb_e hf
  generalize nw h112 (fun _ => 0) = h114 at hf ⊢
  refine p_norm (kn' := [vr 100 (a0 + 38) 12, vr 100 (a0 + 37) 60, vr 100 (a0 + 36) 4, vr 101 (a0 + 35) 3, vr 101 (a0 + 34) 3, vr 101 (a0 + 33) 3, vr 101 (a0 + 32) 3, vr 100 (a0 + 31) 4, vr 100 (a0 + 30) 4, vr 100 (a0 + 29) 60, vr 100 (a0 + 28) 60, vr 100 (a0 + 27) 240, vr 100 (a0 + 26) 60, vr 100 (a0 + 25) 60, vr 100 (a0 + 24) 40, vr 100 (a0 + 23) 40, vr 100 (a0 + 22) 40, vr 100 (a0 + 21) 40, vr 100 (a0 + 20) 40, vr 100 (a0 + 19) 4, vr 100 (a0 + 18) 6, vr 100 (a0 + 17) 6, vr 100 (a0 + 16) 6, vr 100 (a0 + 15) 18, vr 100 (a0 + 14) 18, vr 100 (a0 + 13) 6, vr 100 (a0 + 12) 24, vr 100 (a0 + 11) 6, vr 100 (a0 + 10) 1200, vr 100 (a0 + 9) 30, vr 100 (a0 + 8) 30, vr 100 (a0 + 7) 30, vr 100 (a0 + 6) 6, vr 100 (a0 + 5) 6, vr 100 (a0 + 4) 5, vr 100 (a0 + 3) 5, vr 100 (a0 + 2) 5, vr 102 (a0 + 1) 120]) (cells' := 38) (slots' := 2307) rfl rfl rfl ?_
  refine p_putaF (c := 11) dX11_init_301 55 tb_948 (by decide) (by decide) (Or.inr rfl) h0 rfl rfl rfl rfl rfl (by decide) (fun q => absurd q (by decide)) (up h114 a0 55 (a0 + 38)) rfl ?_
  replace hf := hb_e hf
  generalize up h114 a0 55 (a0 + 38) = h115 at hf ⊢
  exact p_vret dX11_init_304 rfl (by decide) (by decide) (List.forall_mem_cons.mpr ⟨List.mem_of_getElem? (i := 37) rfl, List.forall_mem_cons.mpr ⟨List.mem_of_getElem? (i := 36) rfl, List.forall_mem_cons.mpr ⟨List.mem_of_getElem? (i := 35) rfl, List.forall_mem_cons.mpr ⟨List.mem_of_getElem? (i := 34) rfl, List.forall_mem_cons.mpr ⟨List.mem_of_getElem? (i := 33) rfl, List.forall_mem_cons.mpr ⟨List.mem_of_getElem? (i := 32) rfl, List.forall_mem_cons.mpr ⟨List.mem_of_getElem? (i := 31) rfl, List.forall_mem_cons.mpr ⟨List.mem_of_getElem? (i := 30) rfl, List.forall_mem_cons.mpr ⟨List.mem_of_getElem? (i := 29) rfl, List.forall_mem_cons.mpr ⟨List.mem_of_getElem? (i := 28) rfl, List.forall_mem_cons.mpr ⟨List.mem_of_getElem? (i := 27) rfl, List.forall_mem_cons.mpr ⟨List.mem_of_getElem? (i := 26) rfl, List.forall_mem_cons.mpr ⟨List.mem_of_getElem? (i := 25) rfl, List.forall_mem_cons.mpr ⟨List.mem_of_getElem? (i := 24) rfl, List.forall_mem_cons.mpr ⟨List.mem_of_getElem? (i := 23) rfl, List.forall_mem_cons.mpr ⟨List.mem_of_getElem? (i := 22) rfl, List.forall_mem_cons.mpr ⟨List.mem_of_getElem? (i := 21) rfl, List.forall_mem_cons.mpr ⟨List.mem_of_getElem? (i := 20) rfl, List.forall_mem_cons.mpr ⟨List.mem_of_getElem? (i := 19) rfl, List.forall_mem_cons.mpr ⟨List.mem_of_getElem? (i := 18) rfl, List.forall_mem_cons.mpr ⟨List.mem_of_getElem? (i := 17) rfl, List.forall_mem_cons.mpr ⟨List.mem_of_getElem? (i := 16) rfl, List.forall_mem_cons.mpr ⟨List.mem_of_getElem? (i := 15) rfl, List.forall_mem_cons.mpr ⟨List.mem_of_getElem? (i := 14) rfl, List.forall_mem_cons.mpr ⟨List.mem_of_getElem? (i := 13) rfl, List.forall_mem_cons.mpr ⟨List.mem_of_getElem? (i := 12) rfl, List.forall_mem_cons.mpr ⟨List.mem_of_getElem? (i := 11) rfl, List.forall_mem_cons.mpr ⟨List.mem_of_getElem? (i := 10) rfl, List.forall_mem_cons.mpr ⟨List.mem_of_getElem? (i := 9) rfl, List.forall_mem_cons.mpr ⟨List.mem_of_getElem? (i := 8) rfl, List.forall_mem_cons.mpr ⟨List.mem_of_getElem? (i := 7) rfl, List.forall_mem_cons.mpr ⟨List.mem_of_getElem? (i := 6) rfl, List.forall_mem_cons.mpr ⟨List.mem_of_getElem? (i := 5) rfl, List.forall_mem_cons.mpr ⟨List.mem_of_getElem? (i := 4) rfl, List.forall_mem_cons.mpr ⟨List.mem_of_getElem? (i := 3) rfl, List.forall_mem_cons.mpr ⟨List.mem_of_getElem? (i := 2) rfl, List.forall_mem_cons.mpr ⟨List.mem_of_getElem? (i := 1) rfl, List.forall_mem_cons.mpr ⟨List.mem_of_getElem? (i := 0) rfl, fun _ h => absurd h List.not_mem_nil⟩⟩⟩⟩⟩⟩⟩⟩⟩⟩⟩⟩⟩⟩⟩⟩⟩⟩⟩⟩⟩⟩⟩⟩⟩⟩⟩⟩⟩⟩⟩⟩⟩⟩⟩⟩⟩⟩) hf
theorem ok_X11_init : mOK M_X11_init 0 := ⟨tb_891, tb_9, by decide +kernel⟩
abbrev M_X11_in : MD := (yX11_in, cX11_in, 6, some .boolean)
abbrev rm_X11_in : Room := { frames := 0, cells := 0, slots := 0, locals := 0 }
def w_X11_in_18 (K : Int → Hh → Prop) (s0 : Int) (h : Hh) : Prop := (s0 = 0 ∨ s0 = 1) ∧ (K s0 h)
set_option maxRecDepth 100000 in
set_option maxHeartbeats 4000000 in
theorem t_X11_in_18 {G : Gx} {n0 : Int} {K : Int → Hh → Prop}  (s0 : Int) (h : Hh) (hf : w_X11_in_18 K   s0 h) : PW G M_X11_in rm_X11_in 0 0 [] n0 K 18 [] [vi s0] [] 0 0 h := by
  unfold w_X11_in_18 at hf
  obtain ⟨c1, hf⟩ := hf
  exact p_zret dX11_in_18 rfl (by decide) (by decide) (fun _ h => absurd h List.not_mem_nil) c1 hf
def w_X11_in_17 (K : Int → Hh → Prop) (h : Hh) : Prop := w_X11_in_18 K   0 h
set_option maxRecDepth 100000 in
set_option maxHeartbeats 4000000 in
theorem t_X11_in_17 {G : Gx} {n0 : Int} {K : Int → Hh → Prop}  (h : Hh) (hf : w_X11_in_17 K    h) : PW G M_X11_in rm_X11_in 0 0 [] n0 K 17 [] [] [] 0 0 h := by
  unfold w_X11_in_17 at hf
  refine p_iconst dX11_in_17 (by decide) ?_
  exact t_X11_in_18  _ _ hf
def w_X11_in (x0 x2 x4 : Int) (h : Hh) (K : Int → Hh → Prop) : Prop := if x0 < x2 then (w_X11_in_17 K    h) else (if x0 > x4 then (w_X11_in_17 K    h) else (w_X11_in_18 K   1 h))
set_option maxRecDepth 100000 in
set_option maxHeartbeats 4000000 in
theorem t_X11_in {G : Gx} (x0 x2 x4 : Int) (h : Hh) (K : Int → Hh → Prop) (hf : w_X11_in x0 x2 x4 h K) : CT G M_X11_in rm_X11_in 0 0 [] [vl x0, vl x2, vl x4] h K := by
  unfold w_X11_in at hf
  refine CT.of (ls0 := [(0, vl x0), (2, vl x2), (4, vl x4)]) (plainFor_of_name (by decide +kernel)) (by decide +kernel) (Nat.le_of_ble_eq_true rfl) rfl rfl ?_
  refine p_lload_n dX11_in_0 rfl 0 rfl ?_
  refine p_lload_n dX11_in_1 rfl 1 rfl ?_
  refine p_lcmp (z := (if x0 < x2 then (-1) else if x0 = x2 then 0 else 1)) dX11_in_2 rfl ?_
  refine p_if_lt (tgt := 17) (q := x0 < x2) dX11_in_3 (by decide) (lc_lt x0 x2) (fun hc => ?_) (fun hc => ?_)
  · replace hf := Eq.mp (if_pos hc) hf
    refine p_sub (ls' := []) [] rfl ?_
    exact t_X11_in_17   _ hf
  · replace hf := Eq.mp (if_neg hc) hf
    refine p_lload_n dX11_in_6 rfl 0 rfl ?_
    refine p_lload dX11_in_7 2 rfl ?_
    refine p_lcmp (z := (if x0 < x4 then (-1) else if x0 = x4 then 0 else 1)) dX11_in_9 rfl ?_
    refine p_if_gt (tgt := 17) (q := x0 > x4) dX11_in_10 (by decide) (lc_gt x0 x4) (fun hc => ?_) (fun hc => ?_)
    · replace hf := Eq.mp (if_pos hc) hf
      refine p_sub (ls' := []) [] rfl ?_
      exact t_X11_in_17   _ hf
    · replace hf := Eq.mp (if_neg hc) hf
      refine p_iconst dX11_in_13 (by decide) ?_
      refine p_goto (tgt := 18) dX11_in_14 (by decide) ?_
      refine p_sub (ls' := []) [] rfl ?_
      exact t_X11_in_18  _ _ hf
theorem ok_X11_in : mOK M_X11_in 3 := ⟨tb_1081, tb_9, by decide +kernel⟩
abbrev M_X11_floor : MD := (yX11_floor, cX11_floor, 4, some .long)
abbrev rm_X11_floor : Room := { frames := 0, cells := 0, slots := 0, locals := 0 }
def w_X11_floor_21 (K : Int → Hh → Prop) (s0 : Int) (h : Hh) : Prop := K s0 h
set_option maxRecDepth 100000 in
set_option maxHeartbeats 4000000 in
theorem t_X11_floor_21 {G : Gx} {n0 : Int} {K : Int → Hh → Prop}  (s0 : Int) (h : Hh) (hf : w_X11_floor_21 K   s0 h) : PW G M_X11_floor rm_X11_floor 0 0 [] n0 K 21 [] [vl s0] [] 0 0 h := by
  unfold w_X11_floor_21 at hf
  exact p_lret dX11_floor_21 rfl (by decide) (by decide) (fun _ h => absurd h List.not_mem_nil) hf
def w_X11_floor (x0 x2 : Int) (h : Hh) (K : Int → Hh → Prop) : Prop := if x0 < 0 then ((x2 ≠ 0) ∧ (w_X11_floor_21 K   (w64 (-(w64 (Int.tdiv (w64 ((w64 ((w64 (-x0)) + x2)) - 1)) x2)))) h)) else ((x2 ≠ 0) ∧ (w_X11_floor_21 K   (w64 (Int.tdiv x0 x2)) h))
set_option maxRecDepth 100000 in
set_option maxHeartbeats 4000000 in
theorem t_X11_floor {G : Gx} (x0 x2 : Int) (h : Hh) (K : Int → Hh → Prop) (hf : w_X11_floor x0 x2 h K) : CT G M_X11_floor rm_X11_floor 0 0 [] [vl x0, vl x2] h K := by
  unfold w_X11_floor at hf
  refine CT.of (ls0 := [(0, vl x0), (2, vl x2)]) (plainFor_of_name (by decide +kernel)) (by decide +kernel) (Nat.le_of_ble_eq_true rfl) rfl rfl ?_
  refine p_lload_n dX11_floor_0 rfl 0 rfl ?_
  refine p_lconst (z := 0) dX11_floor_1 rfl ?_
  refine p_lcmp (z := (if x0 < 0 then (-1) else if x0 = 0 then 0 else 1)) dX11_floor_2 rfl ?_
  refine p_if_lt (tgt := 12) (q := x0 < 0) dX11_floor_3 (by decide) (lc_lt x0 0) (fun hc => ?_) (fun hc => ?_)
  · replace hf := Eq.mp (if_pos hc) hf
    refine p_lload_n dX11_floor_12 rfl 0 rfl ?_
    refine p_lneg dX11_floor_13 ?_
    refine p_lload_n dX11_floor_14 rfl 1 rfl ?_
    refine p_ladd dX11_floor_15 ?_
    refine p_lconst (z := 1) dX11_floor_16 rfl ?_
    refine p_lsub dX11_floor_17 ?_
    refine p_lload_n dX11_floor_18 rfl 1 rfl ?_
    obtain ⟨c1, hf⟩ := hf
    refine p_ldiv dX11_floor_19 c1 ?_
    refine p_lneg dX11_floor_20 ?_
    refine p_sub (ls' := []) [] rfl ?_
    exact t_X11_floor_21  _ _ hf
  · replace hf := Eq.mp (if_neg hc) hf
    refine p_lload_n dX11_floor_6 rfl 0 rfl ?_
    refine p_lload_n dX11_floor_7 rfl 1 rfl ?_
    obtain ⟨c2, hf⟩ := hf
    refine p_ldiv dX11_floor_8 c2 ?_
    refine p_goto (tgt := 21) dX11_floor_9 (by decide) ?_
    refine p_sub (ls' := []) [] rfl ?_
    exact t_X11_floor_21  _ _ hf
theorem ok_X11_floor : mOK M_X11_floor 2 := ⟨tb_1143, tb_9, by decide +kernel⟩
abbrev M_X11_nearest : MD := (yX11_nearest, cX11_nearest, 4, some .long)
abbrev rm_X11_nearest : Room := { frames := 1, cells := 0, slots := 0, locals := 23 }
def w_X11_nearest (x0 x2 : Int) (h : Hh) (K : Int → Hh → Prop) : Prop := w_X11_floor (w64 ((w64 (2 * x0)) + x2)) (w64 (2 * x2)) h (fun r1 h2 => K r1 h2)
set_option maxRecDepth 100000 in
set_option maxHeartbeats 4000000 in
theorem t_X11_nearest {G : Gx} (x0 x2 : Int) (h : Hh) (K : Int → Hh → Prop) (hf : w_X11_nearest x0 x2 h K) : CT G M_X11_nearest rm_X11_nearest 0 0 [] [vl x0, vl x2] h K := by
  unfold w_X11_nearest at hf
  refine CT.of (ls0 := [(0, vl x0), (2, vl x2)]) (plainFor_of_name (by decide +kernel)) (by decide +kernel) (Nat.le_of_ble_eq_true rfl) rfl rfl ?_
  refine p_ldc2 (z := 2) dX11_nearest_0 tb_1135 (by decide) ?_
  refine p_lload_n dX11_nearest_3 rfl 0 rfl ?_
  refine p_lmul dX11_nearest_4 ?_
  refine p_lload_n dX11_nearest_5 rfl 1 rfl ?_
  refine p_ladd dX11_nearest_6 ?_
  refine p_ldc2 (z := 2) dX11_nearest_7 tb_1135 (by decide) ?_
  refine p_lload_n dX11_nearest_10 rfl 1 rfl ?_
  refine p_lmul dX11_nearest_11 ?_
  refine p_callSl dX11_nearest_12 M_X11_floor rfl [vl (w64 ((w64 (2 * x0)) + x2)), vl (w64 (2 * x2))] (t_X11_floor _ _ _ _ hf) ok_X11_floor rfl tb_1141 tb_1142 rfl (Nat.le_of_ble_eq_true rfl) ⟨rfl, rfl⟩ ⟨by decide, by decide⟩ ⟨by decide, by decide⟩ (fun r1 h2 hf => ?_)
  exact p_lret dX11_nearest_15 rfl (by decide) (by decide) (fun _ h => absurd h List.not_mem_nil) hf
theorem ok_X11_nearest : mOK M_X11_nearest 2 := ⟨tb_1140, tb_9, by decide +kernel⟩
abbrev M_X11_feed : MD := (yX11_feed, cX11_feed, 8, some .int)
abbrev rm_X11_feed : Room := { frames := 0, cells := 0, slots := 0, locals := 0 }
def w_X11_feed_70 (K : Int → Hh → Prop) (B : Int → Int → Int → Int → Int → Int → Hh → Prop) (a0 : Int) (v1 v2 v3 v4 v5 v6 s0 : Int) (h : Hh) : Prop := ((0 : Int) ≤ h a0 1 ∧ (h a0 1 : Int) < 120) ∧ (hb (up h (a0 + 1) (h a0 1) ((i32 ((i32 s0 >>> (i32 (w32 (24 - (w32 (8 * (Int.tmod v6 4))))) &&& 31)).toInt)).toInt8.toInt32.toInt)) fun h2 => hb (up h2 a0 1 (w32 ((h2 a0 1) + 1))) fun h3 => vb (w32 (v6 + 1)) fun z4 => B v1 v2 v3 v4 v5 z4 h3)
set_option maxRecDepth 100000 in
set_option maxHeartbeats 4000000 in
theorem t_X11_feed_70 {G : Gx} {n0 : Int} {K : Int → Hh → Prop} {B : Int → Int → Int → Int → Int → Int → Hh → Prop} {a0 : Int} (h0 : 0 ≤ a0) (hB : ∀ (v1 v2 v3 v4 v5 v6 : Int) (h : Hh), B v1 v2 v3 v4 v5 v6 h → PW G M_X11_feed rm_X11_feed 0 0 [] n0 K 17 [(0, vr 11 a0 0), (1, vi v1), (2, vi v2), (3, vi v3), (4, vi v4), (5, vi v5), (6, vi v6)] [] [] 0 0 h)  (v1 v2 v3 v4 v5 v6 s0 : Int) (h : Hh) (hf : w_X11_feed_70 K B a0 v1 v2 v3 v4 v5 v6 s0 h) : PW G M_X11_feed rm_X11_feed 0 0 [] n0 K 70 [(0, vr 11 a0 0), (1, vi v1), (2, vi v2), (3, vi v3), (4, vi v4), (5, vi v5), (6, vi v6)] [vi s0] [] 0 0 h := by
  unfold w_X11_feed_70 at hf
  refine p_istore (ls' := [(7, vi s0), (0, vr 11 a0 0), (1, vi v1), (2, vi v2), (3, vi v3), (4, vi v4), (5, vi v5), (6, vi v6)]) dX11_feed_70 (by decide) rfl ?_
  refine p_aload_n dX11_feed_72 rfl 1 rfl ?_
  refine p_lay (c := 11) (tq := 102) (n := 120) dX11_feed_73 0 1 tb_893 (by decide) (by decide) h0 (by decide) (by decide) (fun _ => rfl) (vr 102 (a0 + 1) 120) rfl ?_
  refine p_aload_n dX11_feed_76 rfl 1 rfl ?_
  refine p_get (c := 11) (vi (h a0 1)) dX11_feed_77 1 tb_894 (by decide) (by decide) (Or.inl rfl) h0 rfl rfl ?_
  refine p_iload dX11_feed_80 0 rfl ?_
  refine p_bipush dX11_feed_82 (by decide) (by decide) ?_
  refine p_bipush dX11_feed_84 (by decide) (by decide) ?_
  refine p_iload dX11_feed_86 7 rfl ?_
  refine p_iconst dX11_feed_88 (by decide) ?_
  refine p_irem dX11_feed_89 (by decide) ?_
  refine p_imul dX11_feed_90 ?_
  refine p_isub dX11_feed_91 ?_
  refine p_ishr dX11_feed_92 ?_
  refine p_i2b dX11_feed_93 ?_
  obtain ⟨c1, hf⟩ := hf
  refine p_bast dX11_feed_94 (nnk h0 (by decide)) c1 (byte_r _) (byte_t _) ?_
  replace hf := hb_e hf
  generalize up h (a0 + 1) (h a0 1) ((i32 ((i32 s0 >>> (i32 (w32 (24 - (w32 (8 * (Int.tmod v6 4))))) &&& 31)).toInt)).toInt8.toInt32.toInt) = h2 at hf ⊢
  refine p_aload_n dX11_feed_95 rfl 1 rfl ?_
  refine p_dup dX11_feed_96 (fun _ q => by cases q) ?_
  refine p_get (c := 11) (vi (h2 a0 1)) dX11_feed_97 1 tb_894 (by decide) (by decide) (Or.inl rfl) h0 rfl rfl ?_
  refine p_iconst dX11_feed_100 (by decide) ?_
  refine p_iadd dX11_feed_101 ?_
  refine p_puti (c := 11) dX11_feed_102 1 tb_894 (by decide) (by decide) (Or.inl rfl) h0 rfl rfl (fun _ => by decide) (up h2 a0 1 (w32 ((h2 a0 1) + 1))) rfl ?_
  replace hf := hb_e hf
  generalize up h2 a0 1 (w32 ((h2 a0 1) + 1)) = h3 at hf ⊢
  refine p_iinc (ls' := [(6, vi (w32 (v6 + 1))), (7, vi s0), (0, vr 11 a0 0), (1, vi v1), (2, vi v2), (3, vi v3), (4, vi v4), (5, vi v5)]) dX11_feed_105 7 rfl (by decide) rfl ?_
  replace hf := vb_e hf
  generalize w32 (v6 + 1) = z4 at hf ⊢
  refine p_goto (tgt := 17) dX11_feed_108 (by decide) ?_
  refine p_sub (ls' := [(0, vr 11 a0 0), (1, vi v1), (2, vi v2), (3, vi v3), (4, vi v4), (5, vi v5), (6, vi z4)]) [2, 3, 4, 5, 6, 7, 0] rfl ?_
  exact hB _ _ _ _ _ _ _ hf
def w_X11_feed_17 (K : Int → Hh → Prop) (a0 : Int) : Nat → Int → Int → Int → Int → Int → Int → Hh → Prop
  | 0, _, _, _, _, _, _, _ => False
  | n + 1, v1, v2, v3, v4, v5, v6, h => if v6 ≥ 20 then (K (h a0 1) h) else (if v6 ≥ 4 then (if v6 ≥ 8 then (if v6 ≥ 12 then (if v6 ≥ 16 then (w_X11_feed_70 K (w_X11_feed_17 K  a0 n) a0 v1 v2 v3 v4 v5 v6 v5 h) else (w_X11_feed_70 K (w_X11_feed_17 K  a0 n) a0 v1 v2 v3 v4 v5 v6 v4 h)) else (w_X11_feed_70 K (w_X11_feed_17 K  a0 n) a0 v1 v2 v3 v4 v5 v6 v3 h)) else (w_X11_feed_70 K (w_X11_feed_17 K  a0 n) a0 v1 v2 v3 v4 v5 v6 v2 h)) else (w_X11_feed_70 K (w_X11_feed_17 K  a0 n) a0 v1 v2 v3 v4 v5 v6 v1 h))
set_option maxRecDepth 100000 in
set_option maxHeartbeats 4000000 in
theorem t_X11_feed_17 {G : Gx} {n0 : Int} {K : Int → Hh → Prop} {a0 : Int} (h0 : 0 ≤ a0) : ∀ (n : Nat) (v1 v2 v3 v4 v5 v6 : Int) (h : Hh), w_X11_feed_17 K  a0 n v1 v2 v3 v4 v5 v6 h → PW G M_X11_feed rm_X11_feed 0 0 [] n0 K 17 [(0, vr 11 a0 0), (1, vi v1), (2, vi v2), (3, vi v3), (4, vi v4), (5, vi v5), (6, vi v6)] [] [] 0 0 h := by
  intro n
  induction n with
  | zero =>
    intro v1 v2 v3 v4 v5 v6 h hf
    rw [w_X11_feed_17] at hf
    exact hf.elim
  | succ n ih =>
    intro v1 v2 v3 v4 v5 v6 h hf
    rw [w_X11_feed_17] at hf
    refine p_iload dX11_feed_17 6 rfl ?_
    refine p_bipush dX11_feed_19 (by decide) (by decide) ?_
    refine p_icmp_ge (tgt := 111) (q := v6 ≥ 20) dX11_feed_21 (by decide) Iff.rfl (fun hc => ?_) (fun hc => ?_)
    · replace hf := Eq.mp (if_pos hc) hf
      refine p_aload_n dX11_feed_111 rfl 0 rfl ?_
      refine p_get (c := 11) (vi (h a0 1)) dX11_feed_112 1 tb_894 (by decide) (by decide) (Or.inl rfl) h0 rfl rfl ?_
      exact p_iret dX11_feed_115 rfl (by decide) (by decide) (fun _ h => absurd h List.not_mem_nil) hf
    · replace hf := Eq.mp (if_neg hc) hf
      refine p_iload dX11_feed_24 6 rfl ?_
      refine p_iconst dX11_feed_26 (by decide) ?_
      refine p_icmp_ge (tgt := 34) (q := v6 ≥ 4) dX11_feed_27 (by decide) Iff.rfl (fun hc => ?_) (fun hc => ?_)
      · replace hf := Eq.mp (if_pos hc) hf
        refine p_iload dX11_feed_34 6 rfl ?_
        refine p_bipush dX11_feed_36 (by decide) (by decide) ?_
        refine p_icmp_ge (tgt := 45) (q := v6 ≥ 8) dX11_feed_38 (by decide) Iff.rfl (fun hc => ?_) (fun hc => ?_)
        · replace hf := Eq.mp (if_pos hc) hf
          refine p_iload dX11_feed_45 6 rfl ?_
          refine p_bipush dX11_feed_47 (by decide) (by decide) ?_
          refine p_icmp_ge (tgt := 56) (q := v6 ≥ 12) dX11_feed_49 (by decide) Iff.rfl (fun hc => ?_) (fun hc => ?_)
          · replace hf := Eq.mp (if_pos hc) hf
            refine p_iload dX11_feed_56 6 rfl ?_
            refine p_bipush dX11_feed_58 (by decide) (by decide) ?_
            refine p_icmp_ge (tgt := 68) (q := v6 ≥ 16) dX11_feed_60 (by decide) Iff.rfl (fun hc => ?_) (fun hc => ?_)
            · replace hf := Eq.mp (if_pos hc) hf
              refine p_iload dX11_feed_68 5 rfl ?_
              exact t_X11_feed_70 h0 ih _ _ _ _ _ _ _ _ hf
            · replace hf := Eq.mp (if_neg hc) hf
              refine p_iload dX11_feed_63 4 rfl ?_
              refine p_goto (tgt := 70) dX11_feed_65 (by decide) ?_
              exact t_X11_feed_70 h0 ih _ _ _ _ _ _ _ _ hf
          · replace hf := Eq.mp (if_neg hc) hf
            refine p_iload_n dX11_feed_52 rfl 3 rfl ?_
            refine p_goto (tgt := 70) dX11_feed_53 (by decide) ?_
            exact t_X11_feed_70 h0 ih _ _ _ _ _ _ _ _ hf
        · replace hf := Eq.mp (if_neg hc) hf
          refine p_iload_n dX11_feed_41 rfl 2 rfl ?_
          refine p_goto (tgt := 70) dX11_feed_42 (by decide) ?_
          exact t_X11_feed_70 h0 ih _ _ _ _ _ _ _ _ hf
      · replace hf := Eq.mp (if_neg hc) hf
        refine p_iload_n dX11_feed_30 rfl 1 rfl ?_
        refine p_goto (tgt := 70) dX11_feed_31 (by decide) ?_
        exact t_X11_feed_70 h0 ih _ _ _ _ _ _ _ _ hf
def w_X11_feed (a0 x1 x2 x3 x4 x5 : Int) (h : Hh) (K : Int → Hh → Prop) : Prop := if w32 ((h a0 1) + 20) ≤ 120 then (w_X11_feed_17 K  a0 NF x1 x2 x3 x4 x5 0 h) else (K (-1) h)
set_option maxRecDepth 100000 in
set_option maxHeartbeats 4000000 in
theorem t_X11_feed {G : Gx} (a0 x1 x2 x3 x4 x5 : Int) (h : Hh) (K : Int → Hh → Prop) (h0 : 0 ≤ a0) (hf : w_X11_feed a0 x1 x2 x3 x4 x5 h K) : CT G M_X11_feed rm_X11_feed 0 0 [] [vr 11 a0 0, vi x1, vi x2, vi x3, vi x4, vi x5] h K := by
  unfold w_X11_feed at hf
  refine CT.of (ls0 := [(0, vr 11 a0 0), (1, vi x1), (2, vi x2), (3, vi x3), (4, vi x4), (5, vi x5)]) (plainFor_of_name (by decide +kernel)) (by decide +kernel) (Nat.le_of_ble_eq_true rfl) rfl rfl ?_
  refine p_aload_n dX11_feed_0 rfl 0 rfl ?_
  refine p_get (c := 11) (vi (h a0 1)) dX11_feed_1 1 tb_894 (by decide) (by decide) (Or.inl rfl) h0 rfl rfl ?_
  refine p_bipush dX11_feed_4 (by decide) (by decide) ?_
  refine p_iadd dX11_feed_6 ?_
  refine p_bipush dX11_feed_7 (by decide) (by decide) ?_
  refine p_icmp_le (tgt := 14) (q := w32 ((h a0 1) + 20) ≤ 120) dX11_feed_9 (by decide) Iff.rfl (fun hc => ?_) (fun hc => ?_)
  · replace hf := Eq.mp (if_pos hc) hf
    refine p_iconst dX11_feed_14 (by decide) ?_
    refine p_istore (ls' := [(6, vi 0), (0, vr 11 a0 0), (1, vi x1), (2, vi x2), (3, vi x3), (4, vi x4), (5, vi x5)]) dX11_feed_15 (by decide) rfl ?_
    refine p_sub (ls' := [(0, vr 11 a0 0), (1, vi x1), (2, vi x2), (3, vi x3), (4, vi x4), (5, vi x5), (6, vi 0)]) [1, 2, 3, 4, 5, 6, 0] rfl ?_
    refine t_X11_feed_17 h0  NF _ _ _ _ _ _ _ hf
  · replace hf := Eq.mp (if_neg hc) hf
    refine p_iconst dX11_feed_12 (by decide) ?_
    exact p_iret dX11_feed_13 rfl (by decide) (by decide) (fun _ h => absurd h List.not_mem_nil) hf
theorem ok_X11_feed : mOK M_X11_feed 5 := ⟨tb_1074, tb_9, by decide +kernel⟩
