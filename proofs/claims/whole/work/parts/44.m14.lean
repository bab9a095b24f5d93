abbrev M_X11_habit : MD := (yX11_habit, cX11_habit, 2, some .int)
abbrev rm_X11_habit : Room := { frames := 6, cells := 0, slots := 0, locals := 153 }
def w_X11_habit_22 (K : Int → Hh → Prop) (a0 : Int) (s0 : Int) (h : Hh) : Prop := K s0 h
set_option maxRecDepth 100000 in
set_option maxHeartbeats 4000000 in
theorem t_X11_habit_22 {G : Gx} {n0 : Int} {K : Int → Hh → Prop} {a0 : Int} (h0 : 0 ≤ a0)  (s0 : Int) (h : Hh) (hf : w_X11_habit_22 K  a0 s0 h) : PW G M_X11_habit rm_X11_habit 0 0 [] n0 K 22 [] [vi s0] [] 0 0 h := by
  unfold w_X11_habit_22 at hf
  exact p_iret dX11_habit_22 rfl (by decide) (by decide) (fun _ h => absurd h List.not_mem_nil) hf
def w_X11_habit (a0 x1 : Int) (h : Hh) (K : Int → Hh → Prop) : Prop := w_X11_in x1 0 7 h (fun r1 h2 => if r1 = 0 then (w_X11_habit_22 K  a0 (-2147483648) h2) else (w_X11_habitOf a0 x1 h2 (fun r3 h4 => w_X11_habit_22 K  a0 r3 h4)))
set_option maxRecDepth 100000 in
set_option maxHeartbeats 4000000 in
theorem t_X11_habit {G : Gx} (a0 x1 : Int) (h : Hh) (K : Int → Hh → Prop) (h0 : 0 ≤ a0) (hf : w_X11_habit a0 x1 h K) : CT G M_X11_habit rm_X11_habit 0 0 [] [vr 11 a0 0, vi x1] h K := by
  unfold w_X11_habit at hf
  refine CT.of (ls0 := [(0, vr 11 a0 0), (1, vi x1)]) (plainFor_of_name (by decide +kernel)) (by decide +kernel) (Nat.le_of_ble_eq_true rfl) rfl rfl ?_
  refine p_iload_n dX11_habit_0 rfl 1 rfl ?_
  refine p_i2l dX11_habit_1 ?_
  refine p_lconst (z := 0) dX11_habit_2 rfl ?_
  refine p_ldc2 (z := 7) dX11_habit_3 tb_1293 (by decide) ?_
  refine p_callSi dX11_habit_6 M_X11_in (Or.inr rfl) [vl x1, vl 0, vl 7] (t_X11_in _ _ _ _ _ hf) ok_X11_in rfl tb_1079 tb_1080 rfl (Nat.le_of_ble_eq_true rfl) ⟨rfl, rfl⟩ ⟨by decide, by decide⟩ ⟨by decide, by decide⟩ (fun r1 h2 hf => ?_)
  refine p_if_eq (tgt := 20) (q := r1 = 0) dX11_habit_9 (by decide) Iff.rfl (fun hc => ?_) (fun hc => ?_)
  · replace hf := Eq.mp (if_pos hc) hf
    refine p_ldc (z := (-2147483648)) dX11_habit_20 tb_1123 (by decide) ?_
    refine p_sub (ls' := []) [] rfl ?_
    exact t_X11_habit_22 h0  _ _ hf
  · replace hf := Eq.mp (if_neg hc) hf
    refine p_aload_n dX11_habit_12 rfl 0 rfl ?_
    refine p_iload_n dX11_habit_13 rfl 1 rfl ?_
    refine p_callVi dX11_habit_14 M_X11_habitOf (Or.inl rfl) [vi x1] (t_X11_habitOf _ _ _ _ h0 hf) ok_X11_habitOf rfl (c := 11) (by decide) h0 rfl tb_1299 ⟨tb_1301, ts_96⟩ rfl (Nat.le_of_ble_eq_true rfl) ⟨rfl, rfl⟩ ⟨by decide, by decide⟩ ⟨by decide, by decide⟩ (fun r3 h4 hf => ?_)
    refine p_goto (tgt := 22) dX11_habit_17 (by decide) ?_
    refine p_sub (ls' := []) [] rfl ?_
    exact t_X11_habit_22 h0  _ _ hf
theorem ok_X11_habit : mOK M_X11_habit 1 := ⟨tb_1298, tb_9, by decide +kernel⟩
abbrev M_X11_stands : MD := (yX11_stands, cX11_stands, 5, some .int)
abbrev rm_X11_stands : Room := { frames := 6, cells := 0, slots := 0, locals := 153 }
def w_X11_stands_52 (K : Int → Hh → Prop) (a0 : Int) (s0 : Int) (h : Hh) : Prop := K s0 h
set_option maxRecDepth 100000 in
set_option maxHeartbeats 4000000 in
theorem t_X11_stands_52 {G : Gx} {n0 : Int} {K : Int → Hh → Prop} {a0 : Int} (h0 : 0 ≤ a0)  (s0 : Int) (h : Hh) (hf : w_X11_stands_52 K  a0 s0 h) : PW G M_X11_stands rm_X11_stands 0 0 [] n0 K 52 [] [vi s0] [] 0 0 h := by
  unfold w_X11_stands_52 at hf
  exact p_iret dX11_stands_52 rfl (by decide) (by decide) (fun _ h => absurd h List.not_mem_nil) hf
def w_X11_stands_47 (K : Int → Hh → Prop) (a0 : Int) (h : Hh) : Prop := w_X11_stands_52 K  a0 1 h
set_option maxRecDepth 100000 in
set_option maxHeartbeats 4000000 in
theorem t_X11_stands_47 {G : Gx} {n0 : Int} {K : Int → Hh → Prop} {a0 : Int} (h0 : 0 ≤ a0)  (h : Hh) (hf : w_X11_stands_47 K  a0  h) : PW G M_X11_stands rm_X11_stands 0 0 [] n0 K 47 [] [] [] 0 0 h := by
  unfold w_X11_stands_47 at hf
  refine p_iconst dX11_stands_47 (by decide) ?_
  refine p_goto (tgt := 52) dX11_stands_48 (by decide) ?_
  exact t_X11_stands_52 h0  _ _ hf
def w_X11_stands (a0 x1 x2 : Int) (h : Hh) (K : Int → Hh → Prop) : Prop := w_X11_dueOf a0 x1 h (fun r1 h2 => if r1 ≠ (-1) then (((0 : Int) ≤ x1 ∧ (x1 : Int) < 60) ∧ (w_X11_habitOf a0 (h2 (a0 + 25) x1) h2 (fun r4 h5 => vb (w32 ((w32 ((h2 (a0 + 28) x1) - r1)) - r4)) fun z6 => if z6 > x2 then (w_X11_stands_47 K  a0  h5) else (if w32 (-z6) ≤ x2 then (w_X11_stands_52 K  a0 0 h5) else (w_X11_stands_47 K  a0  h5))))) else (K (-1) h2))
set_option maxRecDepth 100000 in
set_option maxHeartbeats 4000000 in
theorem t_X11_stands {G : Gx} (a0 x1 x2 : Int) (h : Hh) (K : Int → Hh → Prop) (h0 : 0 ≤ a0) (hf : w_X11_stands a0 x1 x2 h K) : CT G M_X11_stands rm_X11_stands 0 0 [] [vr 11 a0 0, vi x1, vi x2] h K := by
  unfold w_X11_stands at hf
  refine CT.of (ls0 := [(0, vr 11 a0 0), (1, vi x1), (2, vi x2)]) (plainFor_of_name (by decide +kernel)) (by decide +kernel) (Nat.le_of_ble_eq_true rfl) rfl rfl ?_
  refine p_aload_n dX11_stands_0 rfl 0 rfl ?_
  refine p_iload_n dX11_stands_1 rfl 1 rfl ?_
  refine p_callVi dX11_stands_2 M_X11_dueOf (Or.inl rfl) [vi x1] (t_X11_dueOf _ _ _ _ h0 hf) ok_X11_dueOf rfl (c := 11) (by decide) h0 rfl tb_1303 ⟨tb_1305, ts_97⟩ rfl (Nat.le_of_ble_eq_true rfl) ⟨rfl, rfl⟩ ⟨by decide, by decide⟩ ⟨by decide, by decide⟩ (fun r1 h2 hf => ?_)
  refine p_istore_n (ls' := [(3, vi r1), (0, vr 11 a0 0), (1, vi x1), (2, vi x2)]) dX11_stands_5 rfl (by decide) rfl ?_
  refine p_iload_n dX11_stands_6 rfl 0 rfl ?_
  refine p_iconst dX11_stands_7 (by decide) ?_
  refine p_icmp_ne (tgt := 13) (q := r1 ≠ (-1)) dX11_stands_8 (by decide) Iff.rfl (fun hc => ?_) (fun hc => ?_)
  · replace hf := Eq.mp (if_pos hc) hf
    refine p_aload_n dX11_stands_13 rfl 1 rfl ?_
    refine p_lay (c := 11) (tq := 100) (n := 60) dX11_stands_14 40 28 tb_933 (by decide) (by decide) h0 (by decide) (by decide) (fun _ => rfl) (vr 100 (a0 + 28) 60) rfl ?_
    refine p_iload_n dX11_stands_17 rfl 2 rfl ?_
    obtain ⟨c3, hf⟩ := hf
    refine p_iald dX11_stands_18 (nnk h0 (by decide)) c3 ?_
    refine p_iload_n dX11_stands_19 rfl 0 rfl ?_
    refine p_isub dX11_stands_20 ?_
    refine p_aload_n dX11_stands_21 rfl 1 rfl ?_
    refine p_aload_n dX11_stands_22 rfl 1 rfl ?_
    refine p_lay (c := 11) (tq := 100) (n := 60) dX11_stands_23 37 25 tb_930 (by decide) (by decide) h0 (by decide) (by decide) (fun _ => rfl) (vr 100 (a0 + 25) 60) rfl ?_
    refine p_iload_n dX11_stands_26 rfl 2 rfl ?_
    refine p_iald dX11_stands_27 (nnk h0 (by decide)) c3 ?_
    refine p_callVi dX11_stands_28 M_X11_habitOf (Or.inl rfl) [vi (h2 (a0 + 25) x1)] (t_X11_habitOf _ _ _ _ h0 hf) ok_X11_habitOf rfl (c := 11) (by decide) h0 rfl tb_1299 ⟨tb_1301, ts_96⟩ rfl (Nat.le_of_ble_eq_true rfl) ⟨rfl, rfl⟩ ⟨by decide, by decide⟩ ⟨by decide, by decide⟩ (fun r4 h5 hf => ?_)
    refine p_isub dX11_stands_31 ?_
    refine p_istore (ls' := [(4, vi (w32 ((w32 ((h2 (a0 + 28) x1) - r1)) - r4))), (3, vi r1), (0, vr 11 a0 0), (1, vi x1), (2, vi x2)]) dX11_stands_32 (by decide) rfl ?_
    replace hf := vb_e hf
    generalize (w32 ((w32 ((h2 (a0 + 28) x1) - r1)) - r4)) = z6 at hf ⊢
    refine p_iload dX11_stands_34 0 rfl ?_
    refine p_iload_n dX11_stands_36 rfl 4 rfl ?_
    refine p_icmp_gt (tgt := 47) (q := z6 > x2) dX11_stands_37 (by decide) Iff.rfl (fun hc => ?_) (fun hc => ?_)
    · replace hf := Eq.mp (if_pos hc) hf
      refine p_sub (ls' := []) [] rfl ?_
      exact t_X11_stands_47 h0   _ hf
    · replace hf := Eq.mp (if_neg hc) hf
      refine p_iload dX11_stands_40 0 rfl ?_
      refine p_ineg dX11_stands_42 ?_
      refine p_iload_n dX11_stands_43 rfl 4 rfl ?_
      refine p_icmp_le (tgt := 51) (q := w32 (-z6) ≤ x2) dX11_stands_44 (by decide) Iff.rfl (fun hc => ?_) (fun hc => ?_)
      · replace hf := Eq.mp (if_pos hc) hf
        refine p_iconst dX11_stands_51 (by decide) ?_
        refine p_sub (ls' := []) [] rfl ?_
        exact t_X11_stands_52 h0  _ _ hf
      · replace hf := Eq.mp (if_neg hc) hf
        refine p_sub (ls' := []) [] rfl ?_
        exact t_X11_stands_47 h0   _ hf
  · replace hf := Eq.mp (if_neg hc) hf
    refine p_iconst dX11_stands_11 (by decide) ?_
    exact p_iret dX11_stands_12 rfl (by decide) (by decide) (fun _ h => absurd h List.not_mem_nil) hf
theorem ok_X11_stands : mOK M_X11_stands 2 := ⟨tb_1315, tb_9, by decide +kernel⟩
abbrev M_X11_due : MD := (yX11_due, cX11_due, 4, some .int)
abbrev rm_X11_due : Room := { frames := 7, cells := 0, slots := 0, locals := 177 }
def w_X11_due_38 (K : Int → Hh → Prop) (a0 : Int) (h : Hh) : Prop := K (-2147483648) h
set_option maxRecDepth 100000 in
set_option maxHeartbeats 4000000 in
theorem t_X11_due_38 {G : Gx} {n0 : Int} {K : Int → Hh → Prop} {a0 : Int} (h0 : 0 ≤ a0)  (h : Hh) (hf : w_X11_due_38 K  a0  h) : PW G M_X11_due rm_X11_due 0 0 [] n0 K 38 [] [] [] 0 0 h := by
  unfold w_X11_due_38 at hf
  refine p_ldc (z := (-2147483648)) dX11_due_38 tb_1123 (by decide) ?_
  exact p_iret dX11_due_40 rfl (by decide) (by decide) (fun _ h => absurd h List.not_mem_nil) hf
def w_X11_due_68 (K : Int → Hh → Prop) (a0 : Int) (s0 : Int) (h : Hh) : Prop := K s0 h
set_option maxRecDepth 100000 in
set_option maxHeartbeats 4000000 in
theorem t_X11_due_68 {G : Gx} {n0 : Int} {K : Int → Hh → Prop} {a0 : Int} (h0 : 0 ≤ a0)  (s0 : Int) (h : Hh) (hf : w_X11_due_68 K  a0 s0 h) : PW G M_X11_due rm_X11_due 0 0 [] n0 K 68 [] [vi s0] [] 0 0 h := by
  unfold w_X11_due_68 at hf
  exact p_iret dX11_due_68 rfl (by decide) (by decide) (fun _ h => absurd h List.not_mem_nil) hf
def w_X11_due (a0 x1 x2 x3 : Int) (h : Hh) (K : Int → Hh → Prop) : Prop := w_X11_in x1 0 (w32 ((h a0 36) - 1)) h (fun r1 h2 => if r1 = 0 then (w_X11_due_38 K  a0  h2) else (w_X11_in x2 0 20 h2 (fun r3 h4 => if r3 = 0 then (w_X11_due_38 K  a0  h4) else (w_X11_in x3 0 1 h4 (fun r5 h6 => if r5 ≠ 0 then (if x3 ≠ 0 then (w_X11_stands a0 x1 x2 h6 (fun r7 h8 => if r7 ≠ 1 then (w_X11_due_68 K  a0 0 h8) else (w_X11_due_68 K  a0 1 h8))) else (w_X11_dueOf a0 x1 h6 (fun r9 h10 => w_X11_due_68 K  a0 r9 h10))) else (w_X11_due_38 K  a0  h6))))))
set_option maxRecDepth 100000 in
set_option maxHeartbeats 4000000 in
theorem t_X11_due {G : Gx} (a0 x1 x2 x3 : Int) (h : Hh) (K : Int → Hh → Prop) (h0 : 0 ≤ a0) (hf : w_X11_due a0 x1 x2 x3 h K) : CT G M_X11_due rm_X11_due 0 0 [] [vr 11 a0 0, vi x1, vi x2, vi x3] h K := by
  unfold w_X11_due at hf
  refine CT.of (ls0 := [(0, vr 11 a0 0), (1, vi x1), (2, vi x2), (3, vi x3)]) (plainFor_of_name (by decide +kernel)) (by decide +kernel) (Nat.le_of_ble_eq_true rfl) rfl rfl ?_
  refine p_iload_n dX11_due_0 rfl 1 rfl ?_
  refine p_i2l dX11_due_1 ?_
  refine p_lconst (z := 0) dX11_due_2 rfl ?_
  refine p_aload_n dX11_due_3 rfl 0 rfl ?_
  refine p_get (c := 11) (vi (h a0 36)) dX11_due_4 36 tb_929 (by decide) (by decide) (Or.inl rfl) h0 rfl rfl ?_
  refine p_iconst dX11_due_7 (by decide) ?_
  refine p_isub dX11_due_8 ?_
  refine p_i2l dX11_due_9 ?_
  refine p_callSi dX11_due_10 M_X11_in (Or.inr rfl) [vl x1, vl 0, vl (w32 ((h a0 36) - 1))] (t_X11_in _ _ _ _ _ hf) ok_X11_in rfl tb_1079 tb_1080 rfl (Nat.le_of_ble_eq_true rfl) ⟨rfl, rfl⟩ ⟨by decide, by decide⟩ ⟨by decide, by decide⟩ (fun r1 h2 hf => ?_)
  refine p_if_eq (tgt := 38) (q := r1 = 0) dX11_due_13 (by decide) Iff.rfl (fun hc => ?_) (fun hc => ?_)
  · replace hf := Eq.mp (if_pos hc) hf
    refine p_sub (ls' := []) [] rfl ?_
    exact t_X11_due_38 h0   _ hf
  · replace hf := Eq.mp (if_neg hc) hf
    refine p_iload_n dX11_due_16 rfl 2 rfl ?_
    refine p_i2l dX11_due_17 ?_
    refine p_lconst (z := 0) dX11_due_18 rfl ?_
    refine p_ldc2 (z := 20) dX11_due_19 tb_1311 (by decide) ?_
    refine p_callSi dX11_due_22 M_X11_in (Or.inr rfl) [vl x2, vl 0, vl 20] (t_X11_in _ _ _ _ _ hf) ok_X11_in rfl tb_1079 tb_1080 rfl (Nat.le_of_ble_eq_true rfl) ⟨rfl, rfl⟩ ⟨by decide, by decide⟩ ⟨by decide, by decide⟩ (fun r3 h4 hf => ?_)
    refine p_if_eq (tgt := 38) (q := r3 = 0) dX11_due_25 (by decide) Iff.rfl (fun hc => ?_) (fun hc => ?_)
    · replace hf := Eq.mp (if_pos hc) hf
      refine p_sub (ls' := []) [] rfl ?_
      exact t_X11_due_38 h0   _ hf
    · replace hf := Eq.mp (if_neg hc) hf
      refine p_iload_n dX11_due_28 rfl 3 rfl ?_
      refine p_i2l dX11_due_29 ?_
      refine p_lconst (z := 0) dX11_due_30 rfl ?_
      refine p_lconst (z := 1) dX11_due_31 rfl ?_
      refine p_callSi dX11_due_32 M_X11_in (Or.inr rfl) [vl x3, vl 0, vl 1] (t_X11_in _ _ _ _ _ hf) ok_X11_in rfl tb_1079 tb_1080 rfl (Nat.le_of_ble_eq_true rfl) ⟨rfl, rfl⟩ ⟨by decide, by decide⟩ ⟨by decide, by decide⟩ (fun r5 h6 hf => ?_)
      refine p_if_ne (tgt := 41) (q := r5 ≠ 0) dX11_due_35 (by decide) Iff.rfl (fun hc => ?_) (fun hc => ?_)
      · replace hf := Eq.mp (if_pos hc) hf
        refine p_iload_n dX11_due_41 rfl 3 rfl ?_
        refine p_if_ne (tgt := 53) (q := x3 ≠ 0) dX11_due_42 (by decide) Iff.rfl (fun hc => ?_) (fun hc => ?_)
        · replace hf := Eq.mp (if_pos hc) hf
          refine p_aload_n dX11_due_53 rfl 0 rfl ?_
          refine p_iload_n dX11_due_54 rfl 1 rfl ?_
          refine p_iload_n dX11_due_55 rfl 2 rfl ?_
          refine p_callVi dX11_due_56 M_X11_stands (Or.inl rfl) [vi x1, vi x2] (t_X11_stands _ _ _ _ _ h0 hf) ok_X11_stands rfl (c := 11) (by decide) h0 rfl tb_1312 ⟨tb_1314, ts_98⟩ rfl (Nat.le_of_ble_eq_true rfl) ⟨rfl, rfl⟩ ⟨by decide, by decide⟩ ⟨by decide, by decide⟩ (fun r7 h8 hf => ?_)
          refine p_iconst dX11_due_59 (by decide) ?_
          refine p_icmp_ne (tgt := 67) (q := r7 ≠ 1) dX11_due_60 (by decide) Iff.rfl (fun hc => ?_) (fun hc => ?_)
          · replace hf := Eq.mp (if_pos hc) hf
            refine p_iconst dX11_due_67 (by decide) ?_
            refine p_sub (ls' := []) [] rfl ?_
            exact t_X11_due_68 h0  _ _ hf
          · replace hf := Eq.mp (if_neg hc) hf
            refine p_iconst dX11_due_63 (by decide) ?_
            refine p_goto (tgt := 68) dX11_due_64 (by decide) ?_
            refine p_sub (ls' := []) [] rfl ?_
            exact t_X11_due_68 h0  _ _ hf
        · replace hf := Eq.mp (if_neg hc) hf
          refine p_aload_n dX11_due_45 rfl 0 rfl ?_
          refine p_iload_n dX11_due_46 rfl 1 rfl ?_
          refine p_callVi dX11_due_47 M_X11_dueOf (Or.inl rfl) [vi x1] (t_X11_dueOf _ _ _ _ h0 hf) ok_X11_dueOf rfl (c := 11) (by decide) h0 rfl tb_1303 ⟨tb_1305, ts_97⟩ rfl (Nat.le_of_ble_eq_true rfl) ⟨rfl, rfl⟩ ⟨by decide, by decide⟩ ⟨by decide, by decide⟩ (fun r9 h10 hf => ?_)
          refine p_goto (tgt := 68) dX11_due_50 (by decide) ?_
          refine p_sub (ls' := []) [] rfl ?_
          exact t_X11_due_68 h0  _ _ hf
      · replace hf := Eq.mp (if_neg hc) hf
        refine p_sub (ls' := []) [] rfl ?_
        exact t_X11_due_38 h0   _ hf
theorem ok_X11_due : mOK M_X11_due 3 := ⟨tb_1310, tb_9, by decide +kernel⟩
abbrev M_X11_has : MD := (yX11_has, cX11_has, 5, some .boolean)
abbrev rm_X11_has : Room := { frames := 0, cells := 0, slots := 0, locals := 0 }
def w_X11_has_66 (K : Int → Hh → Prop) (B : Int → Int → Int → Int → Hh → Prop) (a0 : Int) (v1 v2 v3 v4 : Int) (h : Hh) : Prop := vb (w32 (v4 + 1)) fun z6 => B v1 v2 v3 z6 h
set_option maxRecDepth 100000 in
set_option maxHeartbeats 4000000 in
theorem t_X11_has_66 {G : Gx} {n0 : Int} {K : Int → Hh → Prop} {B : Int → Int → Int → Int → Hh → Prop} {a0 : Int} (h0 : 0 ≤ a0) (hB : ∀ (v1 v2 v3 v4 : Int) (h : Hh), B v1 v2 v3 v4 h → PW G M_X11_has rm_X11_has 0 0 [] n0 K 10 [(0, vr 11 a0 0), (1, vi v1), (2, vi v2), (3, vi v3), (4, vi v4)] [] [] 0 0 h)  (v1 v2 v3 v4 : Int) (h : Hh) (hf : w_X11_has_66 K B a0 v1 v2 v3 v4 h) : PW G M_X11_has rm_X11_has 0 0 [] n0 K 66 [(0, vr 11 a0 0), (1, vi v1), (2, vi v2), (3, vi v3), (4, vi v4)] [] [] 0 0 h := by
  unfold w_X11_has_66 at hf
  refine p_iinc (ls' := [(4, vi (w32 (v4 + 1))), (0, vr 11 a0 0), (1, vi v1), (2, vi v2), (3, vi v3)]) dX11_has_66 4 rfl (by decide) rfl ?_
  replace hf := vb_e hf
  generalize w32 (v4 + 1) = z6 at hf ⊢
  refine p_goto (tgt := 10) dX11_has_69 (by decide) ?_
  refine p_sub (ls' := [(0, vr 11 a0 0), (1, vi v1), (2, vi v2), (3, vi v3), (4, vi z6)]) [1, 2, 3, 4, 0] rfl ?_
  exact hB _ _ _ _ _ hf
def w_X11_has_10 (K : Int → Hh → Prop) (a0 : Int) : Nat → Int → Int → Int → Int → Hh → Prop
  | 0, _, _, _, _, _ => False
  | n + 1, v1, v2, v3, v4, h => ((0 : Int) ≤ v3 ∧ (v3 : Int) < 6) ∧ (((0 : Int) ≤ h (a0 + 11) v3 ∧ (h (a0 + 11) v3 : Int) < 6) ∧ (if v4 ≥ w32 ((h (a0 + 5) (h (a0 + 11) v3)) - 1) then (K 0 h) else (((0 : Int) ≤ w32 ((w32 (4 * v3)) + v4) ∧ (w32 ((w32 (4 * v3)) + v4) : Int) < 24) ∧ (if h (a0 + 12) (w32 ((w32 (4 * v3)) + v4)) ≠ w32 (Int.tdiv v2 100) then (w_X11_has_66 K (w_X11_has_10 K  a0 n) a0 v1 v2 v3 v4 h) else (((0 : Int) ≤ w32 ((w32 (4 * v1)) + v4) ∧ (w32 ((w32 (4 * v1)) + v4) : Int) < 240) ∧ (if h (a0 + 27) (w32 ((w32 (4 * v1)) + v4)) ≠ Int.tmod v2 100 then (w_X11_has_66 K (w_X11_has_10 K  a0 n) a0 v1 v2 v3 v4 h) else (K 1 h)))))))
set_option maxRecDepth 100000 in
set_option maxHeartbeats 4000000 in
theorem t_X11_has_10 {G : Gx} {n0 : Int} {K : Int → Hh → Prop} {a0 : Int} (h0 : 0 ≤ a0) : ∀ (n : Nat) (v1 v2 v3 v4 : Int) (h : Hh), w_X11_has_10 K  a0 n v1 v2 v3 v4 h → PW G M_X11_has rm_X11_has 0 0 [] n0 K 10 [(0, vr 11 a0 0), (1, vi v1), (2, vi v2), (3, vi v3), (4, vi v4)] [] [] 0 0 h := by
  intro n
  induction n with
  | zero =>
    intro v1 v2 v3 v4 h hf
    rw [w_X11_has_10] at hf
    exact hf.elim
  | succ n ih =>
    intro v1 v2 v3 v4 h hf
    rw [w_X11_has_10] at hf
    refine p_iload dX11_has_10 4 rfl ?_
    refine p_aload_n dX11_has_12 rfl 0 rfl ?_
    refine p_lay (c := 11) (tq := 100) (n := 6) dX11_has_13 12 5 tb_905 (by decide) (by decide) h0 (by decide) (by decide) (fun _ => rfl) (vr 100 (a0 + 5) 6) rfl ?_
    refine p_aload_n dX11_has_16 rfl 0 rfl ?_
    refine p_lay (c := 11) (tq := 100) (n := 6) dX11_has_17 19 11 tb_912 (by decide) (by decide) h0 (by decide) (by decide) (fun _ => rfl) (vr 100 (a0 + 11) 6) rfl ?_
    refine p_iload_n dX11_has_20 rfl 3 rfl ?_
    obtain ⟨c3, hf⟩ := hf
    refine p_iald dX11_has_21 (nnk h0 (by decide)) c3 ?_
    obtain ⟨c4, hf⟩ := hf
    refine p_iald dX11_has_22 (nnk h0 (by decide)) c4 ?_
    refine p_iconst dX11_has_23 (by decide) ?_
    refine p_isub dX11_has_24 ?_
    refine p_icmp_ge (tgt := 72) (q := v4 ≥ w32 ((h (a0 + 5) (h (a0 + 11) v3)) - 1)) dX11_has_25 (by decide) Iff.rfl (fun hc => ?_) (fun hc => ?_)
    · replace hf := Eq.mp (if_pos hc) hf
      refine p_iconst dX11_has_72 (by decide) ?_
      exact p_zret dX11_has_73 rfl (by decide) (by decide) (fun _ h => absurd h List.not_mem_nil) (Or.inl rfl) hf
    · replace hf := Eq.mp (if_neg hc) hf
      refine p_aload_n dX11_has_28 rfl 0 rfl ?_
      refine p_lay (c := 11) (tq := 100) (n := 24) dX11_has_29 20 12 tb_913 (by decide) (by decide) h0 (by decide) (by decide) (fun _ => rfl) (vr 100 (a0 + 12) 24) rfl ?_
      refine p_iconst dX11_has_32 (by decide) ?_
      refine p_iload_n dX11_has_33 rfl 3 rfl ?_
      refine p_imul dX11_has_34 ?_
      refine p_iload dX11_has_35 4 rfl ?_
      refine p_iadd dX11_has_37 ?_
      obtain ⟨c5, hf⟩ := hf
      refine p_iald dX11_has_38 (nnk h0 (by decide)) c5 ?_
      refine p_iload_n dX11_has_39 rfl 2 rfl ?_
      refine p_bipush dX11_has_40 (by decide) (by decide) ?_
      refine p_idiv dX11_has_42 (by decide) ?_
      refine p_icmp_ne (tgt := 66) (q := h (a0 + 12) (w32 ((w32 (4 * v3)) + v4)) ≠ w32 (Int.tdiv v2 100)) dX11_has_43 (by decide) Iff.rfl (fun hc => ?_) (fun hc => ?_)
      · replace hf := Eq.mp (if_pos hc) hf
        exact t_X11_has_66 h0 ih _ _ _ _ _ hf
      · replace hf := Eq.mp (if_neg hc) hf
        refine p_aload_n dX11_has_46 rfl 0 rfl ?_
        refine p_lay (c := 11) (tq := 100) (n := 240) dX11_has_47 39 27 tb_932 (by decide) (by decide) h0 (by decide) (by decide) (fun _ => rfl) (vr 100 (a0 + 27) 240) rfl ?_
        refine p_iconst dX11_has_50 (by decide) ?_
        refine p_iload_n dX11_has_51 rfl 1 rfl ?_
        refine p_imul dX11_has_52 ?_
        refine p_iload dX11_has_53 4 rfl ?_
        refine p_iadd dX11_has_55 ?_
        obtain ⟨c7, hf⟩ := hf
        refine p_iald dX11_has_56 (nnk h0 (by decide)) c7 ?_
        refine p_iload_n dX11_has_57 rfl 2 rfl ?_
        refine p_bipush dX11_has_58 (by decide) (by decide) ?_
        refine p_irem dX11_has_60 (by decide) ?_
        refine p_icmp_ne (tgt := 66) (q := h (a0 + 27) (w32 ((w32 (4 * v1)) + v4)) ≠ Int.tmod v2 100) dX11_has_61 (by decide) Iff.rfl (fun hc => ?_) (fun hc => ?_)
        · replace hf := Eq.mp (if_pos hc) hf
          exact t_X11_has_66 h0 ih _ _ _ _ _ hf
        · replace hf := Eq.mp (if_neg hc) hf
          refine p_iconst dX11_has_64 (by decide) ?_
          exact p_zret dX11_has_65 rfl (by decide) (by decide) (fun _ h => absurd h List.not_mem_nil) (Or.inr rfl) hf
def w_X11_has (a0 x1 x2 : Int) (h : Hh) (K : Int → Hh → Prop) : Prop := ((0 : Int) ≤ x1 ∧ (x1 : Int) < 60) ∧ (vb (h (a0 + 26) x1) fun z2 => w_X11_has_10 K  a0 NF x1 x2 z2 0 h)
set_option maxRecDepth 100000 in
set_option maxHeartbeats 4000000 in
theorem t_X11_has {G : Gx} (a0 x1 x2 : Int) (h : Hh) (K : Int → Hh → Prop) (h0 : 0 ≤ a0) (hf : w_X11_has a0 x1 x2 h K) : CT G M_X11_has rm_X11_has 0 0 [] [vr 11 a0 0, vi x1, vi x2] h K := by
  unfold w_X11_has at hf
  refine CT.of (ls0 := [(0, vr 11 a0 0), (1, vi x1), (2, vi x2)]) (plainFor_of_name (by decide +kernel)) (by decide +kernel) (Nat.le_of_ble_eq_true rfl) rfl rfl ?_
  refine p_aload_n dX11_has_0 rfl 0 rfl ?_
  refine p_lay (c := 11) (tq := 100) (n := 60) dX11_has_1 38 26 tb_931 (by decide) (by decide) h0 (by decide) (by decide) (fun _ => rfl) (vr 100 (a0 + 26) 60) rfl ?_
  refine p_iload_n dX11_has_4 rfl 1 rfl ?_
  obtain ⟨c1, hf⟩ := hf
  refine p_iald dX11_has_5 (nnk h0 (by decide)) c1 ?_
  refine p_istore_n (ls' := [(3, vi (h (a0 + 26) x1)), (0, vr 11 a0 0), (1, vi x1), (2, vi x2)]) dX11_has_6 rfl (by decide) rfl ?_
  replace hf := vb_e hf
  generalize (h (a0 + 26) x1) = z2 at hf ⊢
  refine p_iconst dX11_has_7 (by decide) ?_
  refine p_istore (ls' := [(4, vi 0), (3, vi z2), (0, vr 11 a0 0), (1, vi x1), (2, vi x2)]) dX11_has_8 (by decide) rfl ?_
  refine p_sub (ls' := [(0, vr 11 a0 0), (1, vi x1), (2, vi x2), (3, vi z2), (4, vi 0)]) [2, 3, 4, 1, 0] rfl ?_
  refine t_X11_has_10 h0  NF _ _ _ _ _ hf
theorem ok_X11_has : mOK M_X11_has 2 := ⟨tb_1327, tb_9, by decide +kernel⟩
abbrev M_X11_bits : MD := (yX11_bits, cX11_bits, 3, some .int)
abbrev rm_X11_bits : Room := { frames := 0, cells := 0, slots := 0, locals := 0 }
def w_X11_bits_4 (K : Int → Hh → Prop) : Nat → Int → Int → Int → Hh → Prop
  | 0, _, _, _, _ => False
  | n + 1, v0, v1, v2, h => if v2 ≥ 12 then (K v1 h) else (vb (w32 (v1 + ((i32 ((i32 v0 >>> (i32 v2 &&& 31)).toInt) &&& i32 1).toInt))) fun z1 => vb (w32 (v2 + 1)) fun z2 => w_X11_bits_4 K   n v0 z1 z2 h)
set_option maxRecDepth 100000 in
set_option maxHeartbeats 4000000 in
theorem t_X11_bits_4 {G : Gx} {n0 : Int} {K : Int → Hh → Prop} : ∀ (n : Nat) (v0 v1 v2 : Int) (h : Hh), w_X11_bits_4 K   n v0 v1 v2 h → PW G M_X11_bits rm_X11_bits 0 0 [] n0 K 4 [(0, vi v0), (1, vi v1), (2, vi v2)] [] [] 0 0 h := by
  intro n
  induction n with
  | zero =>
    intro v0 v1 v2 h hf
    rw [w_X11_bits_4] at hf
    exact hf.elim
  | succ n ih =>
    intro v0 v1 v2 h hf
    rw [w_X11_bits_4] at hf
    refine p_iload_n dX11_bits_4 rfl 2 rfl ?_
    refine p_bipush dX11_bits_5 (by decide) (by decide) ?_
    refine p_icmp_ge (tgt := 24) (q := v2 ≥ 12) dX11_bits_7 (by decide) Iff.rfl (fun hc => ?_) (fun hc => ?_)
    · replace hf := Eq.mp (if_pos hc) hf
      refine p_iload_n dX11_bits_24 rfl 1 rfl ?_
      exact p_iret dX11_bits_25 rfl (by decide) (by decide) (fun _ h => absurd h List.not_mem_nil) hf
    · replace hf := Eq.mp (if_neg hc) hf
      refine p_iload_n dX11_bits_10 rfl 1 rfl ?_
      refine p_iload_n dX11_bits_11 rfl 0 rfl ?_
      refine p_iload_n dX11_bits_12 rfl 2 rfl ?_
      refine p_ishr dX11_bits_13 ?_
      refine p_iconst dX11_bits_14 (by decide) ?_
      refine p_iand dX11_bits_15 ?_
      refine p_iadd dX11_bits_16 ?_
      refine p_istore_n (ls' := [(1, vi (w32 (v1 + ((i32 ((i32 v0 >>> (i32 v2 &&& 31)).toInt) &&& i32 1).toInt)))), (0, vi v0), (2, vi v2)]) dX11_bits_17 rfl (by decide) rfl ?_
      replace hf := vb_e hf
      generalize (w32 (v1 + ((i32 ((i32 v0 >>> (i32 v2 &&& 31)).toInt) &&& i32 1).toInt))) = z1 at hf ⊢
      refine p_iinc (ls' := [(2, vi (w32 (v2 + 1))), (1, vi z1), (0, vi v0)]) dX11_bits_18 2 rfl (by decide) rfl ?_
      replace hf := vb_e hf
      generalize w32 (v2 + 1) = z2 at hf ⊢
      refine p_goto (tgt := 4) dX11_bits_21 (by decide) ?_
      refine p_sub (ls' := [(0, vi v0), (1, vi z1), (2, vi z2)]) [2, 1, 0] rfl ?_
      exact ih _ _ _ _ hf
def w_X11_bits (x0 : Int) (h : Hh) (K : Int → Hh → Prop) : Prop := w_X11_bits_4 K   NF x0 0 0 h
set_option maxRecDepth 100000 in
set_option maxHeartbeats 4000000 in
theorem t_X11_bits {G : Gx} (x0 : Int) (h : Hh) (K : Int → Hh → Prop) (hf : w_X11_bits x0 h K) : CT G M_X11_bits rm_X11_bits 0 0 [] [vi x0] h K := by
  unfold w_X11_bits at hf
  refine CT.of (ls0 := [(0, vi x0)]) (plainFor_of_name (by decide +kernel)) (by decide +kernel) (Nat.le_of_ble_eq_true rfl) rfl rfl ?_
  refine p_iconst dX11_bits_0 (by decide) ?_
  refine p_istore_n (ls' := [(1, vi 0), (0, vi x0)]) dX11_bits_1 rfl (by decide) rfl ?_
  refine p_iconst dX11_bits_2 (by decide) ?_
  refine p_istore_n (ls' := [(2, vi 0), (1, vi 0), (0, vi x0)]) dX11_bits_3 rfl (by decide) rfl ?_
  refine p_sub (ls' := [(0, vi x0), (1, vi 0), (2, vi 0)]) [2, 1, 0] rfl ?_
  refine t_X11_bits_4  NF _ _ _ _ hf
theorem ok_X11_bits : mOK M_X11_bits 1 := ⟨tb_1330, tb_9, by decide +kernel⟩
abbrev M_X11_explains : MD := (yX11_explains, cX11_explains, 5, some .boolean)
abbrev rm_X11_explains : Room := { frames := 1, cells := 0, slots := 0, locals := 24 }
def w_X11_explains_72 (K : Int → Hh → Prop) (B : Int → Int → Int → Int → Hh → Prop) (X79 : Int → Int → Int → Hh → Prop) (a0 : Int) (v1 v2 v4 s0 : Int) (h : Hh) : Prop := vb (w32 (v4 + 1)) fun z2 => B v1 v2 s0 z2 h
set_option maxRecDepth 100000 in
set_option maxHeartbeats 4000000 in
theorem t_X11_explains_72 {G : Gx} {n0 : Int} {K : Int → Hh → Prop} {B : Int → Int → Int → Int → Hh → Prop} {X79 : Int → Int → Int → Hh → Prop} {a0 : Int} (h0 : 0 ≤ a0) (hB : ∀ (v1 v2 v3 v4 : Int) (h : Hh), B v1 v2 v3 v4 h → PW G M_X11_explains rm_X11_explains 0 0 [] n0 K 29 [(0, vr 11 a0 0), (1, vi v1), (2, vi v2), (3, vi v3), (4, vi v4)] [] [] 0 0 h) (hX79 : ∀ (v1 v2 v3 : Int) (h : Hh), X79 v1 v2 v3 h → PW G M_X11_explains rm_X11_explains 0 0 [] n0 K 79 [(0, vr 11 a0 0), (1, vi v1), (2, vi v2), (3, vi v3)] [] [] 0 0 h)  (v1 v2 v4 s0 : Int) (h : Hh) (hf : w_X11_explains_72 K B X79 a0 v1 v2 v4 s0 h) : PW G M_X11_explains rm_X11_explains 0 0 [] n0 K 72 [(0, vr 11 a0 0), (1, vi v1), (2, vi v2), (4, vi v4)] [vi s0] [] 0 0 h := by
  unfold w_X11_explains_72 at hf
  refine p_istore_n (ls' := [(3, vi s0), (0, vr 11 a0 0), (1, vi v1), (2, vi v2), (4, vi v4)]) dX11_explains_72 rfl (by decide) rfl ?_
  refine p_iinc (ls' := [(4, vi (w32 (v4 + 1))), (3, vi s0), (0, vr 11 a0 0), (1, vi v1), (2, vi v2)]) dX11_explains_73 4 rfl (by decide) rfl ?_
  replace hf := vb_e hf
  generalize w32 (v4 + 1) = z2 at hf ⊢
  refine p_goto (tgt := 29) dX11_explains_76 (by decide) ?_
  refine p_sub (ls' := [(0, vr 11 a0 0), (1, vi v1), (2, vi v2), (3, vi s0), (4, vi z2)]) [2, 3, 4, 1, 0] rfl ?_
  exact hB _ _ _ _ _ hf
def w_X11_explains_71 (K : Int → Hh → Prop) (B : Int → Int → Int → Int → Hh → Prop) (X79 : Int → Int → Int → Hh → Prop) (a0 : Int) (v1 v2 v4 : Int) (h : Hh) : Prop := w_X11_explains_72 K B X79 a0 v1 v2 v4 0 h
set_option maxRecDepth 100000 in
set_option maxHeartbeats 4000000 in
theorem t_X11_explains_71 {G : Gx} {n0 : Int} {K : Int → Hh → Prop} {B : Int → Int → Int → Int → Hh → Prop} {X79 : Int → Int → Int → Hh → Prop} {a0 : Int} (h0 : 0 ≤ a0) (hB : ∀ (v1 v2 v3 v4 : Int) (h : Hh), B v1 v2 v3 v4 h → PW G M_X11_explains rm_X11_explains 0 0 [] n0 K 29 [(0, vr 11 a0 0), (1, vi v1), (2, vi v2), (3, vi v3), (4, vi v4)] [] [] 0 0 h) (hX79 : ∀ (v1 v2 v3 : Int) (h : Hh), X79 v1 v2 v3 h → PW G M_X11_explains rm_X11_explains 0 0 [] n0 K 79 [(0, vr 11 a0 0), (1, vi v1), (2, vi v2), (3, vi v3)] [] [] 0 0 h)  (v1 v2 v4 : Int) (h : Hh) (hf : w_X11_explains_71 K B X79 a0 v1 v2 v4 h) : PW G M_X11_explains rm_X11_explains 0 0 [] n0 K 71 [(0, vr 11 a0 0), (1, vi v1), (2, vi v2), (4, vi v4)] [] [] 0 0 h := by
  unfold w_X11_explains_71 at hf
  refine p_iconst dX11_explains_71 (by decide) ?_
  exact t_X11_explains_72 h0 hB hX79 _ _ _ _ _ hf
def w_X11_explains_29 (K : Int → Hh → Prop) (X79 : Int → Int → Int → Hh → Prop) (a0 : Int) : Nat → Int → Int → Int → Int → Hh → Prop
  | 0, _, _, _, _, _ => False
  | n + 1, v1, v2, v3, v4, h => if v4 ≥ h a0 56 then (X79 v1 v2 v3 h) else (if v3 ≠ 0 then (X79 v1 v2 v3 h) else (if (i32 ((i32 v1 >>> (i32 v4 &&& 31)).toInt) &&& i32 1).toInt ≠ 1 then (w_X11_explains_71 K (w_X11_explains_29 K X79 a0 n) X79 a0 v1 v2 v4 h) else (((0 : Int) ≤ v4 ∧ (v4 : Int) < 12) ∧ (w_X11_has a0 v2 (h (a0 + 38) v4) h (fun r4 h5 => if r4 = 0 then (w_X11_explains_71 K (w_X11_explains_29 K X79 a0 n) X79 a0 v1 v2 v4 h5) else (w_X11_explains_72 K (w_X11_explains_29 K X79 a0 n) X79 a0 v1 v2 v4 1 h5))))))
set_option maxRecDepth 100000 in
set_option maxHeartbeats 4000000 in
theorem t_X11_explains_29 {G : Gx} {n0 : Int} {K : Int → Hh → Prop} {X79 : Int → Int → Int → Hh → Prop} {a0 : Int} (h0 : 0 ≤ a0) (hX79 : ∀ (v1 v2 v3 : Int) (h : Hh), X79 v1 v2 v3 h → PW G M_X11_explains rm_X11_explains 0 0 [] n0 K 79 [(0, vr 11 a0 0), (1, vi v1), (2, vi v2), (3, vi v3)] [] [] 0 0 h) : ∀ (n : Nat) (v1 v2 v3 v4 : Int) (h : Hh), w_X11_explains_29 K X79 a0 n v1 v2 v3 v4 h → PW G M_X11_explains rm_X11_explains 0 0 [] n0 K 29 [(0, vr 11 a0 0), (1, vi v1), (2, vi v2), (3, vi v3), (4, vi v4)] [] [] 0 0 h := by
  intro n
  induction n with
  | zero =>
    intro v1 v2 v3 v4 h hf
    rw [w_X11_explains_29] at hf
    exact hf.elim
  | succ n ih =>
    intro v1 v2 v3 v4 h hf
    rw [w_X11_explains_29] at hf
    refine p_iload dX11_explains_29 4 rfl ?_
    refine p_aload_n dX11_explains_31 rfl 0 rfl ?_
    refine p_get (c := 11) (vi (h a0 56)) dX11_explains_32 56 tb_949 (by decide) (by decide) (Or.inl rfl) h0 rfl rfl ?_
    refine p_icmp_ge (tgt := 79) (q := v4 ≥ h a0 56) dX11_explains_35 (by decide) Iff.rfl (fun hc => ?_) (fun hc => ?_)
    · replace hf := Eq.mp (if_pos hc) hf
      refine p_sub (ls' := [(0, vr 11 a0 0), (1, vi v1), (2, vi v2), (3, vi v3)]) [0, 1, 2, 3] rfl ?_
      exact hX79 _ _ _ _ hf
    · replace hf := Eq.mp (if_neg hc) hf
      refine p_iload_n dX11_explains_38 rfl 3 rfl ?_
      refine p_if_ne (tgt := 79) (q := v3 ≠ 0) dX11_explains_39 (by decide) Iff.rfl (fun hc => ?_) (fun hc => ?_)
      · replace hf := Eq.mp (if_pos hc) hf
        refine p_sub (ls' := [(0, vr 11 a0 0), (1, vi v1), (2, vi v2), (3, vi v3)]) [0, 1, 2, 3] rfl ?_
        exact hX79 _ _ _ _ hf
      · replace hf := Eq.mp (if_neg hc) hf
        refine p_iload_n dX11_explains_42 rfl 1 rfl ?_
        refine p_iload dX11_explains_43 4 rfl ?_
        refine p_ishr dX11_explains_45 ?_
        refine p_iconst dX11_explains_46 (by decide) ?_
        refine p_iand dX11_explains_47 ?_
        refine p_iconst dX11_explains_48 (by decide) ?_
        refine p_icmp_ne (tgt := 71) (q := (i32 ((i32 v1 >>> (i32 v4 &&& 31)).toInt) &&& i32 1).toInt ≠ 1) dX11_explains_49 (by decide) Iff.rfl (fun hc => ?_) (fun hc => ?_)
        · replace hf := Eq.mp (if_pos hc) hf
          refine p_sub (ls' := [(0, vr 11 a0 0), (1, vi v1), (2, vi v2), (4, vi v4)]) [0, 1, 2, 4] rfl ?_
          exact t_X11_explains_71 h0 ih hX79 _ _ _ _ hf
        · replace hf := Eq.mp (if_neg hc) hf
          refine p_aload_n dX11_explains_52 rfl 0 rfl ?_
          refine p_iload_n dX11_explains_53 rfl 2 rfl ?_
          refine p_aload_n dX11_explains_54 rfl 0 rfl ?_
          refine p_lay (c := 11) (tq := 100) (n := 12) dX11_explains_55 55 38 tb_948 (by decide) (by decide) h0 (by decide) (by decide) (fun _ => rfl) (vr 100 (a0 + 38) 12) rfl ?_
          refine p_iload dX11_explains_58 4 rfl ?_
          obtain ⟨c3, hf⟩ := hf
          refine p_iald dX11_explains_60 (nnk h0 (by decide)) c3 ?_
          refine p_callVi dX11_explains_61 M_X11_has (Or.inr rfl) [vi v2, vi (h (a0 + 38) v4)] (t_X11_has _ _ _ _ _ h0 hf) ok_X11_has rfl (c := 11) (by decide) h0 rfl tb_1324 ⟨tb_1326, ts_100⟩ rfl (Nat.le_of_ble_eq_true rfl) ⟨rfl, rfl⟩ ⟨by decide, by decide⟩ ⟨by decide, by decide⟩ (fun r4 h5 hf => ?_)
          refine p_if_eq (tgt := 71) (q := r4 = 0) dX11_explains_64 (by decide) Iff.rfl (fun hc => ?_) (fun hc => ?_)
          · replace hf := Eq.mp (if_pos hc) hf
            refine p_sub (ls' := [(0, vr 11 a0 0), (1, vi v1), (2, vi v2), (4, vi v4)]) [0, 1, 2, 4] rfl ?_
            exact t_X11_explains_71 h0 ih hX79 _ _ _ _ hf
          · replace hf := Eq.mp (if_neg hc) hf
            refine p_iconst dX11_explains_67 (by decide) ?_
            refine p_goto (tgt := 72) dX11_explains_68 (by decide) ?_
            refine p_sub (ls' := [(0, vr 11 a0 0), (1, vi v1), (2, vi v2), (4, vi v4)]) [0, 1, 2, 4] rfl ?_
            exact t_X11_explains_72 h0 ih hX79 _ _ _ _ _ hf
def w_X11_explains_79 (K : Int → Hh → Prop) (B : Int → Int → Hh → Prop) (a0 : Int) (v1 v2 v3 : Int) (h : Hh) : Prop := if v3 ≠ 0 then (vb (w32 (v2 + 1)) fun z10 => B v1 z10 h) else (K 0 h)
set_option maxRecDepth 100000 in
set_option maxHeartbeats 4000000 in
theorem t_X11_explains_79 {G : Gx} {n0 : Int} {K : Int → Hh → Prop} {B : Int → Int → Hh → Prop} {a0 : Int} (h0 : 0 ≤ a0) (hB : ∀ (v1 v2 : Int) (h : Hh), B v1 v2 h → PW G M_X11_explains rm_X11_explains 0 0 [] n0 K 2 [(0, vr 11 a0 0), (1, vi v1), (2, vi v2)] [] [] 0 0 h)  (v1 v2 v3 : Int) (h : Hh) (hf : w_X11_explains_79 K B a0 v1 v2 v3 h) : PW G M_X11_explains rm_X11_explains 0 0 [] n0 K 79 [(0, vr 11 a0 0), (1, vi v1), (2, vi v2), (3, vi v3)] [] [] 0 0 h := by
  unfold w_X11_explains_79 at hf
  refine p_iload_n dX11_explains_79 rfl 3 rfl ?_
  refine p_if_ne (tgt := 85) (q := v3 ≠ 0) dX11_explains_80 (by decide) Iff.rfl (fun hc => ?_) (fun hc => ?_)
  · replace hf := Eq.mp (if_pos hc) hf
    refine p_iinc (ls' := [(2, vi (w32 (v2 + 1))), (0, vr 11 a0 0), (1, vi v1), (3, vi v3)]) dX11_explains_85 2 rfl (by decide) rfl ?_
    replace hf := vb_e hf
    generalize w32 (v2 + 1) = z10 at hf ⊢
    refine p_goto (tgt := 2) dX11_explains_88 (by decide) ?_
    refine p_sub (ls' := [(0, vr 11 a0 0), (1, vi v1), (2, vi z10)]) [1, 2, 0] rfl ?_
    exact hB _ _ _ hf
  · replace hf := Eq.mp (if_neg hc) hf
    refine p_iconst dX11_explains_83 (by decide) ?_
    exact p_zret dX11_explains_84 rfl (by decide) (by decide) (fun _ h => absurd h List.not_mem_nil) (Or.inl rfl) hf
def w_X11_explains_25 (K : Int → Hh → Prop) (B : Int → Int → Hh → Prop) (a0 : Int) (v1 v2 s0 : Int) (h : Hh) : Prop := w_X11_explains_29 K (fun u7 u8 u9 h6 => w_X11_explains_79 K B a0 u7 u8 u9 h6) a0 NF v1 v2 s0 0 h
set_option maxRecDepth 100000 in
set_option maxHeartbeats 4000000 in
theorem t_X11_explains_25 {G : Gx} {n0 : Int} {K : Int → Hh → Prop} {B : Int → Int → Hh → Prop} {a0 : Int} (h0 : 0 ≤ a0) (hB : ∀ (v1 v2 : Int) (h : Hh), B v1 v2 h → PW G M_X11_explains rm_X11_explains 0 0 [] n0 K 2 [(0, vr 11 a0 0), (1, vi v1), (2, vi v2)] [] [] 0 0 h)  (v1 v2 s0 : Int) (h : Hh) (hf : w_X11_explains_25 K B a0 v1 v2 s0 h) : PW G M_X11_explains rm_X11_explains 0 0 [] n0 K 25 [(0, vr 11 a0 0), (1, vi v1), (2, vi v2)] [vi s0] [] 0 0 h := by
  unfold w_X11_explains_25 at hf
  refine p_istore_n (ls' := [(3, vi s0), (0, vr 11 a0 0), (1, vi v1), (2, vi v2)]) dX11_explains_25 rfl (by decide) rfl ?_
  refine p_iconst dX11_explains_26 (by decide) ?_
  refine p_istore (ls' := [(4, vi 0), (3, vi s0), (0, vr 11 a0 0), (1, vi v1), (2, vi v2)]) dX11_explains_27 (by decide) rfl ?_
  refine p_sub (ls' := [(0, vr 11 a0 0), (1, vi v1), (2, vi v2), (3, vi s0), (4, vi 0)]) [2, 3, 4, 1, 0] rfl ?_
  refine t_X11_explains_29 h0 ?_ NF _ _ _ _ _ hf
  · intro u7 u8 u9 h6 hf
    exact t_X11_explains_79 h0 hB _ _ _ _ hf
def w_X11_explains_2 (K : Int → Hh → Prop) (a0 : Int) : Nat → Int → Int → Hh → Prop
  | 0, _, _, _ => False
  | n + 1, v1, v2, h => if v2 ≥ h a0 36 then (K 1 h) else (((0 : Int) ≤ v2 ∧ (v2 : Int) < 60) ∧ (if h (a0 + 37) v2 = 1 then (w_X11_explains_25 K (w_X11_explains_2 K  a0 n) a0 v1 v2 0 h) else (w_X11_explains_25 K (w_X11_explains_2 K  a0 n) a0 v1 v2 1 h)))
set_option maxRecDepth 100000 in
set_option maxHeartbeats 4000000 in
theorem t_X11_explains_2 {G : Gx} {n0 : Int} {K : Int → Hh → Prop} {a0 : Int} (h0 : 0 ≤ a0) : ∀ (n : Nat) (v1 v2 : Int) (h : Hh), w_X11_explains_2 K  a0 n v1 v2 h → PW G M_X11_explains rm_X11_explains 0 0 [] n0 K 2 [(0, vr 11 a0 0), (1, vi v1), (2, vi v2)] [] [] 0 0 h := by
  intro n
  induction n with
  | zero =>
    intro v1 v2 h hf
    rw [w_X11_explains_2] at hf
    exact hf.elim
  | succ n ih =>
    intro v1 v2 h hf
    rw [w_X11_explains_2] at hf
    refine p_iload_n dX11_explains_2 rfl 2 rfl ?_
    refine p_aload_n dX11_explains_3 rfl 0 rfl ?_
    refine p_get (c := 11) (vi (h a0 36)) dX11_explains_4 36 tb_929 (by decide) (by decide) (Or.inl rfl) h0 rfl rfl ?_
    refine p_icmp_ge (tgt := 91) (q := v2 ≥ h a0 36) dX11_explains_7 (by decide) Iff.rfl (fun hc => ?_) (fun hc => ?_)
    · replace hf := Eq.mp (if_pos hc) hf
      refine p_iconst dX11_explains_91 (by decide) ?_
      exact p_zret dX11_explains_92 rfl (by decide) (by decide) (fun _ h => absurd h List.not_mem_nil) (Or.inr rfl) hf
    · replace hf := Eq.mp (if_neg hc) hf
      refine p_aload_n dX11_explains_10 rfl 0 rfl ?_
      refine p_lay (c := 11) (tq := 100) (n := 60) dX11_explains_11 54 37 tb_947 (by decide) (by decide) h0 (by decide) (by decide) (fun _ => rfl) (vr 100 (a0 + 37) 60) rfl ?_
      refine p_iload_n dX11_explains_14 rfl 2 rfl ?_
      obtain ⟨c1, hf⟩ := hf
      refine p_iald dX11_explains_15 (nnk h0 (by decide)) c1 ?_
      refine p_iconst dX11_explains_16 (by decide) ?_
      refine p_icmp_eq (tgt := 24) (q := h (a0 + 37) v2 = 1) dX11_explains_17 (by decide) Iff.rfl (fun hc => ?_) (fun hc => ?_)
      · replace hf := Eq.mp (if_pos hc) hf
        refine p_iconst dX11_explains_24 (by decide) ?_
        exact t_X11_explains_25 h0 ih _ _ _ _ hf
      · replace hf := Eq.mp (if_neg hc) hf
        refine p_iconst dX11_explains_20 (by decide) ?_
        refine p_goto (tgt := 25) dX11_explains_21 (by decide) ?_
        exact t_X11_explains_25 h0 ih _ _ _ _ hf
def w_X11_explains (a0 x1 : Int) (h : Hh) (K : Int → Hh → Prop) : Prop := w_X11_explains_2 K  a0 NF x1 0 h
set_option maxRecDepth 100000 in
set_option maxHeartbeats 4000000 in
theorem t_X11_explains {G : Gx} (a0 x1 : Int) (h : Hh) (K : Int → Hh → Prop) (h0 : 0 ≤ a0) (hf : w_X11_explains a0 x1 h K) : CT G M_X11_explains rm_X11_explains 0 0 [] [vr 11 a0 0, vi x1] h K := by
  unfold w_X11_explains at hf
  refine CT.of (ls0 := [(0, vr 11 a0 0), (1, vi x1)]) (plainFor_of_name (by decide +kernel)) (by decide +kernel) (Nat.le_of_ble_eq_true rfl) rfl rfl ?_
  refine p_iconst dX11_explains_0 (by decide) ?_
  refine p_istore_n (ls' := [(2, vi 0), (0, vr 11 a0 0), (1, vi x1)]) dX11_explains_1 rfl (by decide) rfl ?_
  refine p_sub (ls' := [(0, vr 11 a0 0), (1, vi x1), (2, vi 0)]) [1, 2, 0] rfl ?_
  refine t_X11_explains_2 h0  NF _ _ _ hf
theorem ok_X11_explains : mOK M_X11_explains 1 := ⟨tb_1334, tb_9, by decide +kernel⟩
abbrev M_X11_finds : MD := (yX11_finds, cX11_finds, 9, some .boolean)
abbrev rm_X11_finds : Room := { frames := 7, cells := 0, slots := 0, locals := 177 }
def w_X11_finds_50 (K : Int → Hh → Prop) (B : Int → Int → Int → Hh → Prop) (X57 : Int → Hh → Prop) (a0 : Int) (v1 v2 v3 s0 s1 s2 s2n : Int) (h : Hh) : Prop := 0 ≤ s2 ∧ (((0 : Int) ≤ s1 ∧ (s1 : Int) < s2n) ∧ (hb (up h s2 s1 s0) fun h7 => vb (w32 (v3 + 1)) fun z8 => B v1 v2 z8 h7))
set_option maxRecDepth 100000 in
set_option maxHeartbeats 4000000 in
theorem t_X11_finds_50 {G : Gx} {n0 : Int} {K : Int → Hh → Prop} {B : Int → Int → Int → Hh → Prop} {X57 : Int → Hh → Prop} {a0 : Int} (h0 : 0 ≤ a0) (hB : ∀ (v1 v2 v3 : Int) (h : Hh), B v1 v2 v3 h → PW G M_X11_finds rm_X11_finds 0 0 [] n0 K 17 [(0, vr 11 a0 0), (1, vi v1), (2, vi v2), (3, vi v3)] [] [] 0 0 h) (hX57 : ∀ (v1 : Int) (h : Hh), X57 v1 h → PW G M_X11_finds rm_X11_finds 0 0 [] n0 K 57 [(0, vr 11 a0 0), (1, vi v1)] [] [] 0 0 h)  (v1 v2 v3 s0 s1 s2 s2n : Int) (h : Hh) (hf : w_X11_finds_50 K B X57 a0 v1 v2 v3 s0 s1 s2 s2n h) : PW G M_X11_finds rm_X11_finds 0 0 [] n0 K 50 [(0, vr 11 a0 0), (1, vi v1), (2, vi v2), (3, vi v3)] [vi s0, vi s1, vr 100 s2 s2n] [] 0 0 h := by
  unfold w_X11_finds_50 at hf
  obtain ⟨c5, hf⟩ := hf
  obtain ⟨c6, hf⟩ := hf
  refine p_iast dX11_finds_50 c5 c6 ?_
  replace hf := hb_e hf
  generalize up h s2 s1 s0 = h7 at hf ⊢
  refine p_iinc (ls' := [(3, vi (w32 (v3 + 1))), (0, vr 11 a0 0), (1, vi v1), (2, vi v2)]) dX11_finds_51 3 rfl (by decide) rfl ?_
  replace hf := vb_e hf
  generalize w32 (v3 + 1) = z8 at hf ⊢
  refine p_goto (tgt := 17) dX11_finds_54 (by decide) ?_
  refine p_sub (ls' := [(0, vr 11 a0 0), (1, vi v1), (2, vi v2), (3, vi z8)]) [1, 2, 3, 0] rfl ?_
  exact hB _ _ _ _ hf
def w_X11_finds_17 (K : Int → Hh → Prop) (X57 : Int → Hh → Prop) (a0 : Int) : Nat → Int → Int → Int → Hh → Prop
  | 0, _, _, _, _ => False
  | n + 1, v1, v2, v3, h => if v3 ≥ h a0 36 then (X57 v1 h) else (((0 : Int) ≤ v3 ∧ (v3 : Int) < 60) ∧ (if h (a0 + 26) v3 ≠ v1 then (w_X11_finds_50 K (w_X11_finds_17 K X57 a0 n) X57 a0 v1 v2 v3 (-1) v3 (a0 + 37) 60 h) else (w_X11_stands a0 v3 v2 h (fun r9 h10 => w_X11_finds_50 K (w_X11_finds_17 K X57 a0 n) X57 a0 v1 v2 v3 r9 v3 (a0 + 37) 60 h10))))
set_option maxRecDepth 100000 in
set_option maxHeartbeats 4000000 in
theorem t_X11_finds_17 {G : Gx} {n0 : Int} {K : Int → Hh → Prop} {X57 : Int → Hh → Prop} {a0 : Int} (h0 : 0 ≤ a0) (hX57 : ∀ (v1 : Int) (h : Hh), X57 v1 h → PW G M_X11_finds rm_X11_finds 0 0 [] n0 K 57 [(0, vr 11 a0 0), (1, vi v1)] [] [] 0 0 h) : ∀ (n : Nat) (v1 v2 v3 : Int) (h : Hh), w_X11_finds_17 K X57 a0 n v1 v2 v3 h → PW G M_X11_finds rm_X11_finds 0 0 [] n0 K 17 [(0, vr 11 a0 0), (1, vi v1), (2, vi v2), (3, vi v3)] [] [] 0 0 h := by
  intro n
  induction n with
  | zero =>
    intro v1 v2 v3 h hf
    rw [w_X11_finds_17] at hf
    exact hf.elim
  | succ n ih =>
    intro v1 v2 v3 h hf
    rw [w_X11_finds_17] at hf
    refine p_iload_n dX11_finds_17 rfl 3 rfl ?_
    refine p_aload_n dX11_finds_18 rfl 0 rfl ?_
    refine p_get (c := 11) (vi (h a0 36)) dX11_finds_19 36 tb_929 (by decide) (by decide) (Or.inl rfl) h0 rfl rfl ?_
    refine p_icmp_ge (tgt := 57) (q := v3 ≥ h a0 36) dX11_finds_22 (by decide) Iff.rfl (fun hc => ?_) (fun hc => ?_)
    · replace hf := Eq.mp (if_pos hc) hf
      refine p_sub (ls' := [(0, vr 11 a0 0), (1, vi v1)]) [0, 1] rfl ?_
      exact hX57 _ _ hf
    · replace hf := Eq.mp (if_neg hc) hf
      refine p_aload_n dX11_finds_25 rfl 0 rfl ?_
      refine p_lay (c := 11) (tq := 100) (n := 60) dX11_finds_26 54 37 tb_947 (by decide) (by decide) h0 (by decide) (by decide) (fun _ => rfl) (vr 100 (a0 + 37) 60) rfl ?_
      refine p_iload_n dX11_finds_29 rfl 3 rfl ?_
      refine p_aload_n dX11_finds_30 rfl 0 rfl ?_
      refine p_lay (c := 11) (tq := 100) (n := 60) dX11_finds_31 38 26 tb_931 (by decide) (by decide) h0 (by decide) (by decide) (fun _ => rfl) (vr 100 (a0 + 26) 60) rfl ?_
      refine p_iload_n dX11_finds_34 rfl 3 rfl ?_
      obtain ⟨c4, hf⟩ := hf
      refine p_iald dX11_finds_35 (nnk h0 (by decide)) c4 ?_
      refine p_iload_n dX11_finds_36 rfl 1 rfl ?_
      refine p_icmp_ne (tgt := 49) (q := h (a0 + 26) v3 ≠ v1) dX11_finds_37 (by decide) Iff.rfl (fun hc => ?_) (fun hc => ?_)
      · replace hf := Eq.mp (if_pos hc) hf
        refine p_iconst dX11_finds_49 (by decide) ?_
        exact t_X11_finds_50 h0 ih hX57 _ _ _ _ _ _ _ _ hf
      · replace hf := Eq.mp (if_neg hc) hf
        refine p_aload_n dX11_finds_40 rfl 0 rfl ?_
        refine p_iload_n dX11_finds_41 rfl 3 rfl ?_
        refine p_iload_n dX11_finds_42 rfl 2 rfl ?_
        refine p_callVi dX11_finds_43 M_X11_stands (Or.inl rfl) [vi v3, vi v2] (t_X11_stands _ _ _ _ _ h0 hf) ok_X11_stands rfl (c := 11) (by decide) h0 rfl tb_1312 ⟨tb_1314, ts_98⟩ rfl (Nat.le_of_ble_eq_true rfl) ⟨rfl, rfl⟩ ⟨by decide, by decide⟩ ⟨by decide, by decide⟩ (fun r9 h10 hf => ?_)
        refine p_goto (tgt := 50) dX11_finds_46 (by decide) ?_
        exact t_X11_finds_50 h0 ih hX57 _ _ _ _ _ _ _ _ hf
def w_X11_finds_189 (K : Int → Hh → Prop) (B : Int → Int → Int → Int → Int → Int → Int → Hh → Prop) (X197 : Int → Int → Int → Int → Int → Int → Hh → Prop) (a0 : Int) (v1 v3 v4 v5 v6 v8 s0 : Int) (h : Hh) : Prop := vb (w32 (v8 + 1)) fun z18 => B v1 v3 v4 v5 v6 s0 z18 h
set_option maxRecDepth 100000 in
set_option maxHeartbeats 4000000 in
theorem t_X11_finds_189 {G : Gx} {n0 : Int} {K : Int → Hh → Prop} {B : Int → Int → Int → Int → Int → Int → Int → Hh → Prop} {X197 : Int → Int → Int → Int → Int → Int → Hh → Prop} {a0 : Int} (h0 : 0 ≤ a0) (hB : ∀ (v1 v3 v4 v5 v6 v7 v8 : Int) (h : Hh), B v1 v3 v4 v5 v6 v7 v8 h → PW G M_X11_finds rm_X11_finds 0 0 [] n0 K 115 [(0, vr 11 a0 0), (1, vi v1), (3, vi v3), (4, vi v4), (5, vi v5), (6, vi v6), (7, vi v7), (8, vi v8)] [] [] 0 0 h) (hX197 : ∀ (v1 v3 v4 v5 v6 v7 : Int) (h : Hh), X197 v1 v3 v4 v5 v6 v7 h → PW G M_X11_finds rm_X11_finds 0 0 [] n0 K 197 [(0, vr 11 a0 0), (1, vi v1), (3, vi v3), (4, vi v4), (5, vi v5), (6, vi v6), (7, vi v7)] [] [] 0 0 h)  (v1 v3 v4 v5 v6 v8 s0 : Int) (h : Hh) (hf : w_X11_finds_189 K B X197 a0 v1 v3 v4 v5 v6 v8 s0 h) : PW G M_X11_finds rm_X11_finds 0 0 [] n0 K 189 [(0, vr 11 a0 0), (1, vi v1), (3, vi v3), (4, vi v4), (5, vi v5), (6, vi v6), (8, vi v8)] [vi s0] [] 0 0 h := by
  unfold w_X11_finds_189 at hf
  refine p_istore (ls' := [(7, vi s0), (0, vr 11 a0 0), (1, vi v1), (3, vi v3), (4, vi v4), (5, vi v5), (6, vi v6), (8, vi v8)]) dX11_finds_189 (by decide) rfl ?_
  refine p_iinc (ls' := [(8, vi (w32 (v8 + 1))), (7, vi s0), (0, vr 11 a0 0), (1, vi v1), (3, vi v3), (4, vi v4), (5, vi v5), (6, vi v6)]) dX11_finds_191 7 rfl (by decide) rfl ?_
  replace hf := vb_e hf
  generalize w32 (v8 + 1) = z18 at hf ⊢
  refine p_goto (tgt := 115) dX11_finds_194 (by decide) ?_
  refine p_sub (ls' := [(0, vr 11 a0 0), (1, vi v1), (3, vi v3), (4, vi v4), (5, vi v5), (6, vi v6), (7, vi s0), (8, vi z18)]) [2, 3, 4, 5, 6, 7, 1, 0] rfl ?_
  exact hB _ _ _ _ _ _ _ _ hf
def w_X11_finds_184 (K : Int → Hh → Prop) (B : Int → Int → Int → Int → Int → Int → Int → Hh → Prop) (X197 : Int → Int → Int → Int → Int → Int → Hh → Prop) (a0 : Int) (v1 v3 v4 v5 v6 v8 : Int) (h : Hh) : Prop := w_X11_finds_189 K B X197 a0 v1 v3 v4 v5 v6 v8 1 h
set_option maxRecDepth 100000 in
set_option maxHeartbeats 4000000 in
theorem t_X11_finds_184 {G : Gx} {n0 : Int} {K : Int → Hh → Prop} {B : Int → Int → Int → Int → Int → Int → Int → Hh → Prop} {X197 : Int → Int → Int → Int → Int → Int → Hh → Prop} {a0 : Int} (h0 : 0 ≤ a0) (hB : ∀ (v1 v3 v4 v5 v6 v7 v8 : Int) (h : Hh), B v1 v3 v4 v5 v6 v7 v8 h → PW G M_X11_finds rm_X11_finds 0 0 [] n0 K 115 [(0, vr 11 a0 0), (1, vi v1), (3, vi v3), (4, vi v4), (5, vi v5), (6, vi v6), (7, vi v7), (8, vi v8)] [] [] 0 0 h) (hX197 : ∀ (v1 v3 v4 v5 v6 v7 : Int) (h : Hh), X197 v1 v3 v4 v5 v6 v7 h → PW G M_X11_finds rm_X11_finds 0 0 [] n0 K 197 [(0, vr 11 a0 0), (1, vi v1), (3, vi v3), (4, vi v4), (5, vi v5), (6, vi v6), (7, vi v7)] [] [] 0 0 h)  (v1 v3 v4 v5 v6 v8 : Int) (h : Hh) (hf : w_X11_finds_184 K B X197 a0 v1 v3 v4 v5 v6 v8 h) : PW G M_X11_finds rm_X11_finds 0 0 [] n0 K 184 [(0, vr 11 a0 0), (1, vi v1), (3, vi v3), (4, vi v4), (5, vi v5), (6, vi v6), (8, vi v8)] [] [] 0 0 h := by
  unfold w_X11_finds_184 at hf
  refine p_iconst dX11_finds_184 (by decide) ?_
  refine p_goto (tgt := 189) dX11_finds_185 (by decide) ?_
  exact t_X11_finds_189 h0 hB hX197 _ _ _ _ _ _ _ _ hf
def w_X11_finds_188 (K : Int → Hh → Prop) (B : Int → Int → Int → Int → Int → Int → Int → Hh → Prop) (X197 : Int → Int → Int → Int → Int → Int → Hh → Prop) (a0 : Int) (v1 v3 v4 v5 v6 v8 : Int) (h : Hh) : Prop := w_X11_finds_189 K B X197 a0 v1 v3 v4 v5 v6 v8 0 h
set_option maxRecDepth 100000 in
set_option maxHeartbeats 4000000 in
theorem t_X11_finds_188 {G : Gx} {n0 : Int} {K : Int → Hh → Prop} {B : Int → Int → Int → Int → Int → Int → Int → Hh → Prop} {X197 : Int → Int → Int → Int → Int → Int → Hh → Prop} {a0 : Int} (h0 : 0 ≤ a0) (hB : ∀ (v1 v3 v4 v5 v6 v7 v8 : Int) (h : Hh), B v1 v3 v4 v5 v6 v7 v8 h → PW G M_X11_finds rm_X11_finds 0 0 [] n0 K 115 [(0, vr 11 a0 0), (1, vi v1), (3, vi v3), (4, vi v4), (5, vi v5), (6, vi v6), (7, vi v7), (8, vi v8)] [] [] 0 0 h) (hX197 : ∀ (v1 v3 v4 v5 v6 v7 : Int) (h : Hh), X197 v1 v3 v4 v5 v6 v7 h → PW G M_X11_finds rm_X11_finds 0 0 [] n0 K 197 [(0, vr 11 a0 0), (1, vi v1), (3, vi v3), (4, vi v4), (5, vi v5), (6, vi v6), (7, vi v7)] [] [] 0 0 h)  (v1 v3 v4 v5 v6 v8 : Int) (h : Hh) (hf : w_X11_finds_188 K B X197 a0 v1 v3 v4 v5 v6 v8 h) : PW G M_X11_finds rm_X11_finds 0 0 [] n0 K 188 [(0, vr 11 a0 0), (1, vi v1), (3, vi v3), (4, vi v4), (5, vi v5), (6, vi v6), (8, vi v8)] [] [] 0 0 h := by
  unfold w_X11_finds_188 at hf
  refine p_iconst dX11_finds_188 (by decide) ?_
  exact t_X11_finds_189 h0 hB hX197 _ _ _ _ _ _ _ _ hf
def w_X11_finds_156 (K : Int → Hh → Prop) (B : Int → Int → Int → Int → Int → Int → Int → Hh → Prop) (X197 : Int → Int → Int → Int → Int → Int → Hh → Prop) (a0 : Int) (v1 v3 v4 v5 v7 v8 s0 : Int) (h : Hh) : Prop := if v7 ≠ 0 then (w_X11_finds_184 K B X197 a0 v1 v3 v4 v5 s0 v8 h) else (((0 : Int) ≤ v8 ∧ (v8 : Int) < 60) ∧ (if h (a0 + 37) v8 ≠ 0 then (w_X11_finds_188 K B X197 a0 v1 v3 v4 v5 s0 v8 h) else (w_X11_has a0 v8 v5 h (fun r20 h21 => if r20 = 0 then (w_X11_finds_188 K B X197 a0 v1 v3 v4 v5 s0 v8 h21) else (w_X11_finds_184 K B X197 a0 v1 v3 v4 v5 s0 v8 h21)))))
set_option maxRecDepth 100000 in
set_option maxHeartbeats 4000000 in
theorem t_X11_finds_156 {G : Gx} {n0 : Int} {K : Int → Hh → Prop} {B : Int → Int → Int → Int → Int → Int → Int → Hh → Prop} {X197 : Int → Int → Int → Int → Int → Int → Hh → Prop} {a0 : Int} (h0 : 0 ≤ a0) (hB : ∀ (v1 v3 v4 v5 v6 v7 v8 : Int) (h : Hh), B v1 v3 v4 v5 v6 v7 v8 h → PW G M_X11_finds rm_X11_finds 0 0 [] n0 K 115 [(0, vr 11 a0 0), (1, vi v1), (3, vi v3), (4, vi v4), (5, vi v5), (6, vi v6), (7, vi v7), (8, vi v8)] [] [] 0 0 h) (hX197 : ∀ (v1 v3 v4 v5 v6 v7 : Int) (h : Hh), X197 v1 v3 v4 v5 v6 v7 h → PW G M_X11_finds rm_X11_finds 0 0 [] n0 K 197 [(0, vr 11 a0 0), (1, vi v1), (3, vi v3), (4, vi v4), (5, vi v5), (6, vi v6), (7, vi v7)] [] [] 0 0 h)  (v1 v3 v4 v5 v7 v8 s0 : Int) (h : Hh) (hf : w_X11_finds_156 K B X197 a0 v1 v3 v4 v5 v7 v8 s0 h) : PW G M_X11_finds rm_X11_finds 0 0 [] n0 K 156 [(0, vr 11 a0 0), (1, vi v1), (3, vi v3), (4, vi v4), (5, vi v5), (7, vi v7), (8, vi v8)] [vi s0] [] 0 0 h := by
  unfold w_X11_finds_156 at hf
  refine p_istore (ls' := [(6, vi s0), (0, vr 11 a0 0), (1, vi v1), (3, vi v3), (4, vi v4), (5, vi v5), (7, vi v7), (8, vi v8)]) dX11_finds_156 (by decide) rfl ?_
  refine p_iload dX11_finds_158 6 rfl ?_
  refine p_if_ne (tgt := 184) (q := v7 ≠ 0) dX11_finds_160 (by decide) Iff.rfl (fun hc => ?_) (fun hc => ?_)
  · replace hf := Eq.mp (if_pos hc) hf
    refine p_sub (ls' := [(0, vr 11 a0 0), (1, vi v1), (3, vi v3), (4, vi v4), (5, vi v5), (6, vi s0), (8, vi v8)]) [1, 2, 3, 4, 5, 0, 7] rfl ?_
    exact t_X11_finds_184 h0 hB hX197 _ _ _ _ _ _ _ hf
  · replace hf := Eq.mp (if_neg hc) hf
    refine p_aload_n dX11_finds_163 rfl 1 rfl ?_
    refine p_lay (c := 11) (tq := 100) (n := 60) dX11_finds_164 54 37 tb_947 (by decide) (by decide) h0 (by decide) (by decide) (fun _ => rfl) (vr 100 (a0 + 37) 60) rfl ?_
    refine p_iload dX11_finds_167 7 rfl ?_
    obtain ⟨c19, hf⟩ := hf
    refine p_iald dX11_finds_169 (nnk h0 (by decide)) c19 ?_
    refine p_if_ne (tgt := 188) (q := h (a0 + 37) v8 ≠ 0) dX11_finds_170 (by decide) Iff.rfl (fun hc => ?_) (fun hc => ?_)
    · replace hf := Eq.mp (if_pos hc) hf
      refine p_sub (ls' := [(0, vr 11 a0 0), (1, vi v1), (3, vi v3), (4, vi v4), (5, vi v5), (6, vi s0), (8, vi v8)]) [1, 2, 3, 4, 5, 0, 7] rfl ?_
      exact t_X11_finds_188 h0 hB hX197 _ _ _ _ _ _ _ hf
    · replace hf := Eq.mp (if_neg hc) hf
      refine p_aload_n dX11_finds_173 rfl 1 rfl ?_
      refine p_iload dX11_finds_174 7 rfl ?_
      refine p_iload dX11_finds_176 5 rfl ?_
      refine p_callVi dX11_finds_178 M_X11_has (Or.inr rfl) [vi v8, vi v5] (t_X11_has _ _ _ _ _ h0 hf) ok_X11_has rfl (c := 11) (by decide) h0 rfl tb_1324 ⟨tb_1326, ts_100⟩ rfl (Nat.le_of_ble_eq_true rfl) ⟨rfl, rfl⟩ ⟨by decide, by decide⟩ ⟨by decide, by decide⟩ (fun r20 h21 hf => ?_)
      refine p_if_eq (tgt := 188) (q := r20 = 0) dX11_finds_181 (by decide) Iff.rfl (fun hc => ?_) (fun hc => ?_)
      · replace hf := Eq.mp (if_pos hc) hf
        refine p_sub (ls' := [(0, vr 11 a0 0), (1, vi v1), (3, vi v3), (4, vi v4), (5, vi v5), (6, vi s0), (8, vi v8)]) [1, 2, 3, 4, 5, 0, 7] rfl ?_
        exact t_X11_finds_188 h0 hB hX197 _ _ _ _ _ _ _ hf
      · replace hf := Eq.mp (if_neg hc) hf
        refine p_sub (ls' := [(0, vr 11 a0 0), (1, vi v1), (3, vi v3), (4, vi v4), (5, vi v5), (6, vi s0), (8, vi v8)]) [1, 2, 3, 4, 5, 0, 7] rfl ?_
        exact t_X11_finds_184 h0 hB hX197 _ _ _ _ _ _ _ hf
def w_X11_finds_151 (K : Int → Hh → Prop) (B : Int → Int → Int → Int → Int → Int → Int → Hh → Prop) (X197 : Int → Int → Int → Int → Int → Int → Hh → Prop) (a0 : Int) (v1 v3 v4 v5 v7 v8 : Int) (h : Hh) : Prop := w_X11_finds_156 K B X197 a0 v1 v3 v4 v5 v7 v8 1 h
set_option maxRecDepth 100000 in
set_option maxHeartbeats 4000000 in
theorem t_X11_finds_151 {G : Gx} {n0 : Int} {K : Int → Hh → Prop} {B : Int → Int → Int → Int → Int → Int → Int → Hh → Prop} {X197 : Int → Int → Int → Int → Int → Int → Hh → Prop} {a0 : Int} (h0 : 0 ≤ a0) (hB : ∀ (v1 v3 v4 v5 v6 v7 v8 : Int) (h : Hh), B v1 v3 v4 v5 v6 v7 v8 h → PW G M_X11_finds rm_X11_finds 0 0 [] n0 K 115 [(0, vr 11 a0 0), (1, vi v1), (3, vi v3), (4, vi v4), (5, vi v5), (6, vi v6), (7, vi v7), (8, vi v8)] [] [] 0 0 h) (hX197 : ∀ (v1 v3 v4 v5 v6 v7 : Int) (h : Hh), X197 v1 v3 v4 v5 v6 v7 h → PW G M_X11_finds rm_X11_finds 0 0 [] n0 K 197 [(0, vr 11 a0 0), (1, vi v1), (3, vi v3), (4, vi v4), (5, vi v5), (6, vi v6), (7, vi v7)] [] [] 0 0 h)  (v1 v3 v4 v5 v7 v8 : Int) (h : Hh) (hf : w_X11_finds_151 K B X197 a0 v1 v3 v4 v5 v7 v8 h) : PW G M_X11_finds rm_X11_finds 0 0 [] n0 K 151 [(0, vr 11 a0 0), (1, vi v1), (3, vi v3), (4, vi v4), (5, vi v5), (7, vi v7), (8, vi v8)] [] [] 0 0 h := by
  unfold w_X11_finds_151 at hf
  refine p_iconst dX11_finds_151 (by decide) ?_
  refine p_goto (tgt := 156) dX11_finds_152 (by decide) ?_
  exact t_X11_finds_156 h0 hB hX197 _ _ _ _ _ _ _ _ hf
def w_X11_finds_155 (K : Int → Hh → Prop) (B : Int → Int → Int → Int → Int → Int → Int → Hh → Prop) (X197 : Int → Int → Int → Int → Int → Int → Hh → Prop) (a0 : Int) (v1 v3 v4 v5 v7 v8 : Int) (h : Hh) : Prop := w_X11_finds_156 K B X197 a0 v1 v3 v4 v5 v7 v8 0 h
set_option maxRecDepth 100000 in
set_option maxHeartbeats 4000000 in
theorem t_X11_finds_155 {G : Gx} {n0 : Int} {K : Int → Hh → Prop} {B : Int → Int → Int → Int → Int → Int → Int → Hh → Prop} {X197 : Int → Int → Int → Int → Int → Int → Hh → Prop} {a0 : Int} (h0 : 0 ≤ a0) (hB : ∀ (v1 v3 v4 v5 v6 v7 v8 : Int) (h : Hh), B v1 v3 v4 v5 v6 v7 v8 h → PW G M_X11_finds rm_X11_finds 0 0 [] n0 K 115 [(0, vr 11 a0 0), (1, vi v1), (3, vi v3), (4, vi v4), (5, vi v5), (6, vi v6), (7, vi v7), (8, vi v8)] [] [] 0 0 h) (hX197 : ∀ (v1 v3 v4 v5 v6 v7 : Int) (h : Hh), X197 v1 v3 v4 v5 v6 v7 h → PW G M_X11_finds rm_X11_finds 0 0 [] n0 K 197 [(0, vr 11 a0 0), (1, vi v1), (3, vi v3), (4, vi v4), (5, vi v5), (6, vi v6), (7, vi v7)] [] [] 0 0 h)  (v1 v3 v4 v5 v7 v8 : Int) (h : Hh) (hf : w_X11_finds_155 K B X197 a0 v1 v3 v4 v5 v7 v8 h) : PW G M_X11_finds rm_X11_finds 0 0 [] n0 K 155 [(0, vr 11 a0 0), (1, vi v1), (3, vi v3), (4, vi v4), (5, vi v5), (7, vi v7), (8, vi v8)] [] [] 0 0 h := by
  unfold w_X11_finds_155 at hf
  refine p_iconst dX11_finds_155 (by decide) ?_
  exact t_X11_finds_156 h0 hB hX197 _ _ _ _ _ _ _ _ hf
def w_X11_finds_115 (K : Int → Hh → Prop) (X197 : Int → Int → Int → Int → Int → Int → Hh → Prop) (a0 : Int) : Nat → Int → Int → Int → Int → Int → Int → Int → Hh → Prop
  | 0, _, _, _, _, _, _, _, _ => False
  | n + 1, v1, v3, v4, v5, v6, v7, v8, h => if v8 ≥ h a0 36 then (X197 v1 v3 v4 v5 v6 v7 h) else (if v6 ≠ 0 then (w_X11_finds_151 K (w_X11_finds_115 K X197 a0 n) X197 a0 v1 v3 v4 v5 v7 v8 h) else (((0 : Int) ≤ v8 ∧ (v8 : Int) < 60) ∧ (if h (a0 + 37) v8 ≠ 1 then (w_X11_finds_155 K (w_X11_finds_115 K X197 a0 n) X197 a0 v1 v3 v4 v5 v7 v8 h) else (w_X11_has a0 v8 v5 h (fun r23 h24 => if r23 = 0 then (w_X11_finds_155 K (w_X11_finds_115 K X197 a0 n) X197 a0 v1 v3 v4 v5 v7 v8 h24) else (w_X11_finds_151 K (w_X11_finds_115 K X197 a0 n) X197 a0 v1 v3 v4 v5 v7 v8 h24))))))
set_option maxRecDepth 100000 in
set_option maxHeartbeats 4000000 in
theorem t_X11_finds_115 {G : Gx} {n0 : Int} {K : Int → Hh → Prop} {X197 : Int → Int → Int → Int → Int → Int → Hh → Prop} {a0 : Int} (h0 : 0 ≤ a0) (hX197 : ∀ (v1 v3 v4 v5 v6 v7 : Int) (h : Hh), X197 v1 v3 v4 v5 v6 v7 h → PW G M_X11_finds rm_X11_finds 0 0 [] n0 K 197 [(0, vr 11 a0 0), (1, vi v1), (3, vi v3), (4, vi v4), (5, vi v5), (6, vi v6), (7, vi v7)] [] [] 0 0 h) : ∀ (n : Nat) (v1 v3 v4 v5 v6 v7 v8 : Int) (h : Hh), w_X11_finds_115 K X197 a0 n v1 v3 v4 v5 v6 v7 v8 h → PW G M_X11_finds rm_X11_finds 0 0 [] n0 K 115 [(0, vr 11 a0 0), (1, vi v1), (3, vi v3), (4, vi v4), (5, vi v5), (6, vi v6), (7, vi v7), (8, vi v8)] [] [] 0 0 h := by
  intro n
  induction n with
  | zero =>
    intro v1 v3 v4 v5 v6 v7 v8 h hf
    rw [w_X11_finds_115] at hf
    exact hf.elim
  | succ n ih =>
    intro v1 v3 v4 v5 v6 v7 v8 h hf
    rw [w_X11_finds_115] at hf
    refine p_iload dX11_finds_115 7 rfl ?_
    refine p_aload_n dX11_finds_117 rfl 0 rfl ?_
    refine p_get (c := 11) (vi (h a0 36)) dX11_finds_118 36 tb_929 (by decide) (by decide) (Or.inl rfl) h0 rfl rfl ?_
    refine p_icmp_ge (tgt := 197) (q := v8 ≥ h a0 36) dX11_finds_121 (by decide) Iff.rfl (fun hc => ?_) (fun hc => ?_)
    · replace hf := Eq.mp (if_pos hc) hf
      refine p_sub (ls' := [(0, vr 11 a0 0), (1, vi v1), (3, vi v3), (4, vi v4), (5, vi v5), (6, vi v6), (7, vi v7)]) [0, 1, 2, 3, 4, 5, 6] rfl ?_
      exact hX197 _ _ _ _ _ _ _ hf
    · replace hf := Eq.mp (if_neg hc) hf
      refine p_iload dX11_finds_124 5 rfl ?_
      refine p_if_ne (tgt := 151) (q := v6 ≠ 0) dX11_finds_126 (by decide) Iff.rfl (fun hc => ?_) (fun hc => ?_)
      · replace hf := Eq.mp (if_pos hc) hf
        refine p_sub (ls' := [(0, vr 11 a0 0), (1, vi v1), (3, vi v3), (4, vi v4), (5, vi v5), (7, vi v7), (8, vi v8)]) [0, 1, 2, 3, 4, 6, 7] rfl ?_
        exact t_X11_finds_151 h0 ih hX197 _ _ _ _ _ _ _ hf
      · replace hf := Eq.mp (if_neg hc) hf
        refine p_aload_n dX11_finds_129 rfl 0 rfl ?_
        refine p_lay (c := 11) (tq := 100) (n := 60) dX11_finds_130 54 37 tb_947 (by decide) (by decide) h0 (by decide) (by decide) (fun _ => rfl) (vr 100 (a0 + 37) 60) rfl ?_
        refine p_iload dX11_finds_133 7 rfl ?_
        obtain ⟨c22, hf⟩ := hf
        refine p_iald dX11_finds_135 (nnk h0 (by decide)) c22 ?_
        refine p_iconst dX11_finds_136 (by decide) ?_
        refine p_icmp_ne (tgt := 155) (q := h (a0 + 37) v8 ≠ 1) dX11_finds_137 (by decide) Iff.rfl (fun hc => ?_) (fun hc => ?_)
        · replace hf := Eq.mp (if_pos hc) hf
          refine p_sub (ls' := [(0, vr 11 a0 0), (1, vi v1), (3, vi v3), (4, vi v4), (5, vi v5), (7, vi v7), (8, vi v8)]) [0, 1, 2, 3, 4, 6, 7] rfl ?_
          exact t_X11_finds_155 h0 ih hX197 _ _ _ _ _ _ _ hf
        · replace hf := Eq.mp (if_neg hc) hf
          refine p_aload_n dX11_finds_140 rfl 0 rfl ?_
          refine p_iload dX11_finds_141 7 rfl ?_
          refine p_iload dX11_finds_143 4 rfl ?_
          refine p_callVi dX11_finds_145 M_X11_has (Or.inr rfl) [vi v8, vi v5] (t_X11_has _ _ _ _ _ h0 hf) ok_X11_has rfl (c := 11) (by decide) h0 rfl tb_1324 ⟨tb_1326, ts_100⟩ rfl (Nat.le_of_ble_eq_true rfl) ⟨rfl, rfl⟩ ⟨by decide, by decide⟩ ⟨by decide, by decide⟩ (fun r23 h24 hf => ?_)
          refine p_if_eq (tgt := 155) (q := r23 = 0) dX11_finds_148 (by decide) Iff.rfl (fun hc => ?_) (fun hc => ?_)
          · replace hf := Eq.mp (if_pos hc) hf
            refine p_sub (ls' := [(0, vr 11 a0 0), (1, vi v1), (3, vi v3), (4, vi v4), (5, vi v5), (7, vi v7), (8, vi v8)]) [0, 1, 2, 3, 4, 6, 7] rfl ?_
            exact t_X11_finds_155 h0 ih hX197 _ _ _ _ _ _ _ hf
          · replace hf := Eq.mp (if_neg hc) hf
            refine p_sub (ls' := [(0, vr 11 a0 0), (1, vi v1), (3, vi v3), (4, vi v4), (5, vi v5), (7, vi v7), (8, vi v8)]) [0, 1, 2, 3, 4, 6, 7] rfl ?_
            exact t_X11_finds_151 h0 ih hX197 _ _ _ _ _ _ _ hf
def w_X11_finds_242 (K : Int → Hh → Prop) (B : Int → Int → Int → Hh → Prop) (X248 : Int → Int → Hh → Prop) (a0 : Int) (v1 v3 v4 : Int) (h : Hh) : Prop := vb (w32 (v4 + 1)) fun z32 => B v1 v3 z32 h
set_option maxRecDepth 100000 in
set_option maxHeartbeats 4000000 in
theorem t_X11_finds_242 {G : Gx} {n0 : Int} {K : Int → Hh → Prop} {B : Int → Int → Int → Hh → Prop} {X248 : Int → Int → Hh → Prop} {a0 : Int} (h0 : 0 ≤ a0) (hB : ∀ (v1 v3 v4 : Int) (h : Hh), B v1 v3 v4 h → PW G M_X11_finds rm_X11_finds 0 0 [] n0 K 77 [(0, vr 11 a0 0), (1, vi v1), (3, vi v3), (4, vi v4)] [] [] 0 0 h) (hX248 : ∀ (v1 v3 : Int) (h : Hh), X248 v1 v3 h → PW G M_X11_finds rm_X11_finds 0 0 [] n0 K 248 [(0, vr 11 a0 0), (1, vi v1), (3, vi v3)] [] [] 0 0 h)  (v1 v3 v4 : Int) (h : Hh) (hf : w_X11_finds_242 K B X248 a0 v1 v3 v4 h) : PW G M_X11_finds rm_X11_finds 0 0 [] n0 K 242 [(0, vr 11 a0 0), (1, vi v1), (3, vi v3), (4, vi v4)] [] [] 0 0 h := by
  unfold w_X11_finds_242 at hf
  refine p_iinc (ls' := [(4, vi (w32 (v4 + 1))), (0, vr 11 a0 0), (1, vi v1), (3, vi v3)]) dX11_finds_242 3 rfl (by decide) rfl ?_
  replace hf := vb_e hf
  generalize w32 (v4 + 1) = z32 at hf ⊢
  refine p_goto (tgt := 77) dX11_finds_245 (by decide) ?_
  refine p_sub (ls' := [(0, vr 11 a0 0), (1, vi v1), (3, vi v3), (4, vi z32)]) [1, 2, 3, 0] rfl ?_
  exact hB _ _ _ _ hf
def w_X11_finds_77 (K : Int → Hh → Prop) (X248 : Int → Int → Hh → Prop) (a0 : Int) : Nat → Int → Int → Int → Hh → Prop
  | 0, _, _, _, _ => False
  | n + 1, v1, v3, v4, h => ((0 : Int) ≤ v1 ∧ (v1 : Int) < 6) ∧ (((0 : Int) ≤ w32 ((w32 (5 * (h (a0 + 11) v1))) + v3) ∧ (w32 ((w32 (5 * (h (a0 + 11) v1))) + v3) : Int) < 30) ∧ (if v4 ≥ h (a0 + 9) (w32 ((w32 (5 * (h (a0 + 11) v1))) + v3)) then (X248 v1 v3 h) else (vb (w32 ((w32 (100 * v3)) + v4)) fun z17 => w_X11_finds_115 K (fun u26 u27 u28 u29 u30 u31 h25 => if u30 = 0 then (w_X11_finds_242 K (w_X11_finds_77 K X248 a0 n) X248 a0 u26 u27 u28 h25) else (if u31 = 0 then (if h25 a0 56 ≠ 12 then (((0 : Int) ≤ h25 a0 56 ∧ (h25 a0 56 : Int) < 12) ∧ (hb (up h25 (a0 + 38) (h25 a0 56) u29) fun h34 => hb (up h34 a0 56 (w32 ((h34 a0 56) + 1))) fun h35 => w_X11_finds_242 K (w_X11_finds_77 K X248 a0 n) X248 a0 u26 u27 u28 h35)) else (K 0 h25)) else (w_X11_finds_242 K (w_X11_finds_77 K X248 a0 n) X248 a0 u26 u27 u28 h25))) a0 NF v1 v3 v4 z17 0 0 0 h)))
set_option maxRecDepth 100000 in
set_option maxHeartbeats 4000000 in
theorem t_X11_finds_77 {G : Gx} {n0 : Int} {K : Int → Hh → Prop} {X248 : Int → Int → Hh → Prop} {a0 : Int} (h0 : 0 ≤ a0) (hX248 : ∀ (v1 v3 : Int) (h : Hh), X248 v1 v3 h → PW G M_X11_finds rm_X11_finds 0 0 [] n0 K 248 [(0, vr 11 a0 0), (1, vi v1), (3, vi v3)] [] [] 0 0 h) : ∀ (n : Nat) (v1 v3 v4 : Int) (h : Hh), w_X11_finds_77 K X248 a0 n v1 v3 v4 h → PW G M_X11_finds rm_X11_finds 0 0 [] n0 K 77 [(0, vr 11 a0 0), (1, vi v1), (3, vi v3), (4, vi v4)] [] [] 0 0 h := by
  intro n
  induction n with
  | zero =>
    intro v1 v3 v4 h hf
    rw [w_X11_finds_77] at hf
    exact hf.elim
  | succ n ih =>
    intro v1 v3 v4 h hf
    rw [w_X11_finds_77] at hf
    refine p_iload dX11_finds_77 3 rfl ?_
    refine p_aload_n dX11_finds_79 rfl 0 rfl ?_
    refine p_lay (c := 11) (tq := 100) (n := 30) dX11_finds_80 16 9 tb_909 (by decide) (by decide) h0 (by decide) (by decide) (fun _ => rfl) (vr 100 (a0 + 9) 30) rfl ?_
    refine p_iconst dX11_finds_83 (by decide) ?_
    refine p_aload_n dX11_finds_84 rfl 0 rfl ?_
    refine p_lay (c := 11) (tq := 100) (n := 6) dX11_finds_85 19 11 tb_912 (by decide) (by decide) h0 (by decide) (by decide) (fun _ => rfl) (vr 100 (a0 + 11) 6) rfl ?_
    refine p_iload_n dX11_finds_88 rfl 1 rfl ?_
    obtain ⟨c15, hf⟩ := hf
    refine p_iald dX11_finds_89 (nnk h0 (by decide)) c15 ?_
    refine p_imul dX11_finds_90 ?_
    refine p_iload_n dX11_finds_91 rfl 2 rfl ?_
    refine p_iadd dX11_finds_92 ?_
    obtain ⟨c16, hf⟩ := hf
    refine p_iald dX11_finds_93 (nnk h0 (by decide)) c16 ?_
    refine p_icmp_ge (tgt := 248) (q := v4 ≥ h (a0 + 9) (w32 ((w32 (5 * (h (a0 + 11) v1))) + v3))) dX11_finds_94 (by decide) Iff.rfl (fun hc => ?_) (fun hc => ?_)
    · replace hf := Eq.mp (if_pos hc) hf
      refine p_sub (ls' := [(0, vr 11 a0 0), (1, vi v1), (3, vi v3)]) [0, 1, 2] rfl ?_
      exact hX248 _ _ _ hf
    · replace hf := Eq.mp (if_neg hc) hf
      refine p_bipush dX11_finds_97 (by decide) (by decide) ?_
      refine p_iload_n dX11_finds_99 rfl 2 rfl ?_
      refine p_imul dX11_finds_100 ?_
      refine p_iload dX11_finds_101 3 rfl ?_
      refine p_iadd dX11_finds_103 ?_
      refine p_istore (ls' := [(5, vi (w32 ((w32 (100 * v3)) + v4))), (0, vr 11 a0 0), (1, vi v1), (3, vi v3), (4, vi v4)]) dX11_finds_104 (by decide) rfl ?_
      replace hf := vb_e hf
      generalize (w32 ((w32 (100 * v3)) + v4)) = z17 at hf ⊢
      refine p_iconst dX11_finds_106 (by decide) ?_
      refine p_istore (ls' := [(6, vi 0), (5, vi z17), (0, vr 11 a0 0), (1, vi v1), (3, vi v3), (4, vi v4)]) dX11_finds_107 (by decide) rfl ?_
      refine p_iconst dX11_finds_109 (by decide) ?_
      refine p_istore (ls' := [(7, vi 0), (6, vi 0), (5, vi z17), (0, vr 11 a0 0), (1, vi v1), (3, vi v3), (4, vi v4)]) dX11_finds_110 (by decide) rfl ?_
      refine p_iconst dX11_finds_112 (by decide) ?_
      refine p_istore (ls' := [(8, vi 0), (7, vi 0), (6, vi 0), (5, vi z17), (0, vr 11 a0 0), (1, vi v1), (3, vi v3), (4, vi v4)]) dX11_finds_113 (by decide) rfl ?_
      refine p_sub (ls' := [(0, vr 11 a0 0), (1, vi v1), (3, vi v3), (4, vi v4), (5, vi z17), (6, vi 0), (7, vi 0), (8, vi 0)]) [4, 5, 6, 7, 3, 2, 1, 0] rfl ?_
      refine t_X11_finds_115 h0 ?_ NF _ _ _ _ _ _ _ _ hf
      · intro u26 u27 u28 u29 u30 u31 h25 hf
        refine p_iload dX11_finds_197 5 rfl ?_
        refine p_if_eq (tgt := 242) (q := u30 = 0) dX11_finds_199 (by decide) Iff.rfl (fun hc => ?_) (fun hc => ?_)
        · replace hf := Eq.mp (if_pos hc) hf
          refine p_sub (ls' := [(0, vr 11 a0 0), (1, vi u26), (3, vi u27), (4, vi u28)]) [0, 1, 2, 3] rfl ?_
          exact t_X11_finds_242 h0 ih hX248 _ _ _ _ hf
        · replace hf := Eq.mp (if_neg hc) hf
          refine p_iload dX11_finds_202 6 rfl ?_
          refine p_if_eq (tgt := 210) (q := u31 = 0) dX11_finds_204 (by decide) Iff.rfl (fun hc => ?_) (fun hc => ?_)
          · replace hf := Eq.mp (if_pos hc) hf
            refine p_aload_n dX11_finds_210 rfl 0 rfl ?_
            refine p_get (c := 11) (vi (h25 a0 56)) dX11_finds_211 56 tb_949 (by decide) (by decide) (Or.inl rfl) h0 rfl rfl ?_
            refine p_bipush dX11_finds_214 (by decide) (by decide) ?_
            refine p_icmp_ne (tgt := 221) (q := h25 a0 56 ≠ 12) dX11_finds_216 (by decide) Iff.rfl (fun hc => ?_) (fun hc => ?_)
            · replace hf := Eq.mp (if_pos hc) hf
              refine p_aload_n dX11_finds_221 rfl 0 rfl ?_
              refine p_lay (c := 11) (tq := 100) (n := 12) dX11_finds_222 55 38 tb_948 (by decide) (by decide) h0 (by decide) (by decide) (fun _ => rfl) (vr 100 (a0 + 38) 12) rfl ?_
              refine p_aload_n dX11_finds_225 rfl 0 rfl ?_
              refine p_get (c := 11) (vi (h25 a0 56)) dX11_finds_226 56 tb_949 (by decide) (by decide) (Or.inl rfl) h0 rfl rfl ?_
              refine p_iload dX11_finds_229 4 rfl ?_
              obtain ⟨c33, hf⟩ := hf
              refine p_iast dX11_finds_231 (nnk h0 (by decide)) c33 ?_
              replace hf := hb_e hf
              generalize up h25 (a0 + 38) (h25 a0 56) u29 = h34 at hf ⊢
              refine p_aload_n dX11_finds_232 rfl 0 rfl ?_
              refine p_dup dX11_finds_233 (fun _ q => by cases q) ?_
              refine p_get (c := 11) (vi (h34 a0 56)) dX11_finds_234 56 tb_949 (by decide) (by decide) (Or.inl rfl) h0 rfl rfl ?_
              refine p_iconst dX11_finds_237 (by decide) ?_
              refine p_iadd dX11_finds_238 ?_
              refine p_puti (c := 11) dX11_finds_239 56 tb_949 (by decide) (by decide) (Or.inl rfl) h0 rfl rfl (fun _ => by decide) (up h34 a0 56 (w32 ((h34 a0 56) + 1))) rfl ?_
              replace hf := hb_e hf
              generalize up h34 a0 56 (w32 ((h34 a0 56) + 1)) = h35 at hf ⊢
              refine p_sub (ls' := [(0, vr 11 a0 0), (1, vi u26), (3, vi u27), (4, vi u28)]) [0, 1, 2, 3] rfl ?_
              exact t_X11_finds_242 h0 ih hX248 _ _ _ _ hf
            · replace hf := Eq.mp (if_neg hc) hf
              refine p_iconst dX11_finds_219 (by decide) ?_
              exact p_zret dX11_finds_220 rfl (by decide) (by decide) (fun _ h => absurd h List.not_mem_nil) (Or.inl rfl) hf
          · replace hf := Eq.mp (if_neg hc) hf
            refine p_goto (tgt := 242) dX11_finds_207 (by decide) ?_
            refine p_sub (ls' := [(0, vr 11 a0 0), (1, vi u26), (3, vi u27), (4, vi u28)]) [0, 1, 2, 3] rfl ?_
            exact t_X11_finds_242 h0 ih hX248 _ _ _ _ hf
def w_X11_finds_59 (K : Int → Hh → Prop) (X254 : Hh → Prop) (a0 : Int) : Nat → Int → Int → Hh → Prop
  | 0, _, _, _ => False
  | n + 1, v1, v3, h => ((0 : Int) ≤ v1 ∧ (v1 : Int) < 6) ∧ (((0 : Int) ≤ h (a0 + 11) v1 ∧ (h (a0 + 11) v1 : Int) < 6) ∧ (if v3 ≥ h (a0 + 5) (h (a0 + 11) v1) then (X254  h) else (w_X11_finds_77 K (fun u37 u38 h36 => vb (w32 (u38 + 1)) fun z39 => w_X11_finds_59 K X254 a0 n u37 z39 h36) a0 NF v1 v3 0 h)))
set_option maxRecDepth 100000 in
set_option maxHeartbeats 4000000 in
theorem t_X11_finds_59 {G : Gx} {n0 : Int} {K : Int → Hh → Prop} {X254 : Hh → Prop} {a0 : Int} (h0 : 0 ≤ a0) (hX254 : ∀ (h : Hh), X254  h → PW G M_X11_finds rm_X11_finds 0 0 [] n0 K 254 [(0, vr 11 a0 0)] [] [] 0 0 h) : ∀ (n : Nat) (v1 v3 : Int) (h : Hh), w_X11_finds_59 K X254 a0 n v1 v3 h → PW G M_X11_finds rm_X11_finds 0 0 [] n0 K 59 [(0, vr 11 a0 0), (1, vi v1), (3, vi v3)] [] [] 0 0 h := by
  intro n
  induction n with
  | zero =>
    intro v1 v3 h hf
    rw [w_X11_finds_59] at hf
    exact hf.elim
  | succ n ih =>
    intro v1 v3 h hf
    rw [w_X11_finds_59] at hf
    refine p_iload_n dX11_finds_59 rfl 2 rfl ?_
    refine p_aload_n dX11_finds_60 rfl 0 rfl ?_
    refine p_lay (c := 11) (tq := 100) (n := 6) dX11_finds_61 12 5 tb_905 (by decide) (by decide) h0 (by decide) (by decide) (fun _ => rfl) (vr 100 (a0 + 5) 6) rfl ?_
    refine p_aload_n dX11_finds_64 rfl 0 rfl ?_
    refine p_lay (c := 11) (tq := 100) (n := 6) dX11_finds_65 19 11 tb_912 (by decide) (by decide) h0 (by decide) (by decide) (fun _ => rfl) (vr 100 (a0 + 11) 6) rfl ?_
    refine p_iload_n dX11_finds_68 rfl 1 rfl ?_
    obtain ⟨c13, hf⟩ := hf
    refine p_iald dX11_finds_69 (nnk h0 (by decide)) c13 ?_
    obtain ⟨c14, hf⟩ := hf
    refine p_iald dX11_finds_70 (nnk h0 (by decide)) c14 ?_
    refine p_icmp_ge (tgt := 254) (q := v3 ≥ h (a0 + 5) (h (a0 + 11) v1)) dX11_finds_71 (by decide) Iff.rfl (fun hc => ?_) (fun hc => ?_)
    · replace hf := Eq.mp (if_pos hc) hf
      refine p_sub (ls' := [(0, vr 11 a0 0)]) [0] rfl ?_
      exact hX254  _ hf
    · replace hf := Eq.mp (if_neg hc) hf
      refine p_iconst dX11_finds_74 (by decide) ?_
      refine p_istore (ls' := [(4, vi 0), (0, vr 11 a0 0), (1, vi v1), (3, vi v3)]) dX11_finds_75 (by decide) rfl ?_
      refine p_sub (ls' := [(0, vr 11 a0 0), (1, vi v1), (3, vi v3), (4, vi 0)]) [1, 2, 3, 0] rfl ?_
      refine t_X11_finds_77 h0 ?_ NF _ _ _ _ hf
      · intro u37 u38 h36 hf
        refine p_iinc (ls' := [(3, vi (w32 (u38 + 1))), (0, vr 11 a0 0), (1, vi u37)]) dX11_finds_248 2 rfl (by decide) rfl ?_
        replace hf := vb_e hf
        generalize w32 (u38 + 1) = z39 at hf ⊢
        refine p_goto (tgt := 59) dX11_finds_251 (by decide) ?_
        refine p_sub (ls' := [(0, vr 11 a0 0), (1, vi u37), (3, vi z39)]) [1, 2, 0] rfl ?_
        exact ih _ _ _ hf
def w_X11_finds_368 (K : Int → Hh → Prop) (B : Int → Hh → Prop) (X374 : Hh → Prop) (a0 : Int) (v3 : Int) (h : Hh) : Prop := vb (w32 (v3 + 1)) fun z45 => B z45 h
set_option maxRecDepth 100000 in
set_option maxHeartbeats 4000000 in
theorem t_X11_finds_368 {G : Gx} {n0 : Int} {K : Int → Hh → Prop} {B : Int → Hh → Prop} {X374 : Hh → Prop} {a0 : Int} (h0 : 0 ≤ a0) (hB : ∀ (v3 : Int) (h : Hh), B v3 h → PW G M_X11_finds rm_X11_finds 0 0 [] n0 K 256 [(0, vr 11 a0 0), (3, vi v3)] [] [] 0 0 h) (hX374 : ∀ (h : Hh), X374  h → PW G M_X11_finds rm_X11_finds 0 0 [] n0 K 374 [(0, vr 11 a0 0)] [] [] 0 0 h)  (v3 : Int) (h : Hh) (hf : w_X11_finds_368 K B X374 a0 v3 h) : PW G M_X11_finds rm_X11_finds 0 0 [] n0 K 368 [(0, vr 11 a0 0), (3, vi v3)] [] [] 0 0 h := by
  unfold w_X11_finds_368 at hf
  refine p_iinc (ls' := [(3, vi (w32 (v3 + 1))), (0, vr 11 a0 0)]) dX11_finds_368 1 rfl (by decide) rfl ?_
  replace hf := vb_e hf
  generalize w32 (v3 + 1) = z45 at hf ⊢
  refine p_goto (tgt := 256) dX11_finds_371 (by decide) ?_
  refine p_sub (ls' := [(0, vr 11 a0 0), (3, vi z45)]) [1, 0] rfl ?_
  exact hB _ _ hf
def w_X11_finds_321 (K : Int → Hh → Prop) (B : Int → Hh → Prop) (X374 : Hh → Prop) (a0 : Int) (v3 : Int) (h : Hh) : Prop := hb (up h a0 57 v3) fun h43 => hb (up h43 a0 58 0) fun h44 => w_X11_finds_368 K B X374 a0 v3 h44
set_option maxRecDepth 100000 in
set_option maxHeartbeats 4000000 in
theorem t_X11_finds_321 {G : Gx} {n0 : Int} {K : Int → Hh → Prop} {B : Int → Hh → Prop} {X374 : Hh → Prop} {a0 : Int} (h0 : 0 ≤ a0) (hB : ∀ (v3 : Int) (h : Hh), B v3 h → PW G M_X11_finds rm_X11_finds 0 0 [] n0 K 256 [(0, vr 11 a0 0), (3, vi v3)] [] [] 0 0 h) (hX374 : ∀ (h : Hh), X374  h → PW G M_X11_finds rm_X11_finds 0 0 [] n0 K 374 [(0, vr 11 a0 0)] [] [] 0 0 h)  (v3 : Int) (h : Hh) (hf : w_X11_finds_321 K B X374 a0 v3 h) : PW G M_X11_finds rm_X11_finds 0 0 [] n0 K 321 [(0, vr 11 a0 0), (3, vi v3)] [] [] 0 0 h := by
  unfold w_X11_finds_321 at hf
  refine p_aload_n dX11_finds_321 rfl 0 rfl ?_
  refine p_iload_n dX11_finds_322 rfl 1 rfl ?_
  refine p_puti (c := 11) dX11_finds_323 57 tb_950 (by decide) (by decide) (Or.inl rfl) h0 rfl rfl (fun _ => by decide) (up h a0 57 v3) rfl ?_
  replace hf := hb_e hf
  generalize up h a0 57 v3 = h43 at hf ⊢
  refine p_aload_n dX11_finds_326 rfl 0 rfl ?_
  refine p_iconst dX11_finds_327 (by decide) ?_
  refine p_puti (c := 11) dX11_finds_328 58 tb_951 (by decide) (by decide) (Or.inl rfl) h0 rfl rfl (fun _ => by decide) (up h43 a0 58 0) rfl ?_
  replace hf := hb_e hf
  generalize up h43 a0 58 0 = h44 at hf ⊢
  refine p_goto (tgt := 368) dX11_finds_331 (by decide) ?_
  exact t_X11_finds_368 h0 hB hX374 _ _ hf
def w_X11_finds_288 (K : Int → Hh → Prop) (B : Int → Hh → Prop) (X374 : Hh → Prop) (a0 : Int) (v3 : Int) (h : Hh) : Prop := w_X11_explains a0 v3 h (fun r41 h42 => if r41 ≠ 0 then (if h42 a0 57 = (-1) then (w_X11_finds_321 K B X374 a0 v3 h42) else (w_X11_bits v3 h42 (fun r46 h47 => w_X11_bits (h47 a0 57) h47 (fun r48 h49 => if r46 ≥ r48 then (hb (up h49 a0 58 (w32 ((h49 a0 58) + 1))) fun h50 => vb ((i32 v3 ^^^ i32 (h50 a0 57)).toInt) fun z51 => if (i32 ((i32 v3 &&& i32 z51).toInt) &&& i32 (w32 (-z51))).toInt = 0 then (w_X11_finds_368 K B X374 a0 v3 h50) else (hb (up h50 a0 57 v3) fun h52 => w_X11_finds_368 K B X374 a0 v3 h52)) else (w_X11_finds_321 K B X374 a0 v3 h49))))) else (w_X11_finds_368 K B X374 a0 v3 h42))
set_option maxRecDepth 100000 in
set_option maxHeartbeats 4000000 in
theorem t_X11_finds_288 {G : Gx} {n0 : Int} {K : Int → Hh → Prop} {B : Int → Hh → Prop} {X374 : Hh → Prop} {a0 : Int} (h0 : 0 ≤ a0) (hB : ∀ (v3 : Int) (h : Hh), B v3 h → PW G M_X11_finds rm_X11_finds 0 0 [] n0 K 256 [(0, vr 11 a0 0), (3, vi v3)] [] [] 0 0 h) (hX374 : ∀ (h : Hh), X374  h → PW G M_X11_finds rm_X11_finds 0 0 [] n0 K 374 [(0, vr 11 a0 0)] [] [] 0 0 h)  (v3 : Int) (h : Hh) (hf : w_X11_finds_288 K B X374 a0 v3 h) : PW G M_X11_finds rm_X11_finds 0 0 [] n0 K 288 [(0, vr 11 a0 0), (3, vi v3)] [] [] 0 0 h := by
  unfold w_X11_finds_288 at hf
  refine p_aload_n dX11_finds_288 rfl 0 rfl ?_
  refine p_iload_n dX11_finds_289 rfl 1 rfl ?_
  refine p_callVi dX11_finds_290 M_X11_explains (Or.inr rfl) [vi v3] (t_X11_explains _ _ _ _ h0 hf) ok_X11_explains rfl (c := 11) (by decide) h0 rfl tb_1331 ⟨tb_1333, ts_101⟩ rfl (Nat.le_of_ble_eq_true rfl) ⟨rfl, rfl⟩ ⟨by decide, by decide⟩ ⟨by decide, by decide⟩ (fun r41 h42 hf => ?_)
  refine p_if_ne (tgt := 299) (q := r41 ≠ 0) dX11_finds_293 (by decide) Iff.rfl (fun hc => ?_) (fun hc => ?_)
  · replace hf := Eq.mp (if_pos hc) hf
    refine p_aload_n dX11_finds_299 rfl 0 rfl ?_
    refine p_get (c := 11) (vi (h42 a0 57)) dX11_finds_300 57 tb_950 (by decide) (by decide) (Or.inl rfl) h0 rfl rfl ?_
    refine p_iconst dX11_finds_303 (by decide) ?_
    refine p_icmp_eq (tgt := 321) (q := h42 a0 57 = (-1)) dX11_finds_304 (by decide) Iff.rfl (fun hc => ?_) (fun hc => ?_)
    · replace hf := Eq.mp (if_pos hc) hf
      exact t_X11_finds_321 h0 hB hX374 _ _ hf
    · replace hf := Eq.mp (if_neg hc) hf
      refine p_iload_n dX11_finds_307 rfl 1 rfl ?_
      refine p_callSi dX11_finds_308 M_X11_bits (Or.inl rfl) [vi v3] (t_X11_bits _ _ _ hf) ok_X11_bits rfl tb_1328 tb_1329 rfl (Nat.le_of_ble_eq_true rfl) ⟨rfl, rfl⟩ ⟨by decide, by decide⟩ ⟨by decide, by decide⟩ (fun r46 h47 hf => ?_)
      refine p_aload_n dX11_finds_311 rfl 0 rfl ?_
      refine p_get (c := 11) (vi (h47 a0 57)) dX11_finds_312 57 tb_950 (by decide) (by decide) (Or.inl rfl) h0 rfl rfl ?_
      refine p_callSi dX11_finds_315 M_X11_bits (Or.inl rfl) [vi (h47 a0 57)] (t_X11_bits _ _ _ hf) ok_X11_bits rfl tb_1328 tb_1329 rfl (Nat.le_of_ble_eq_true rfl) ⟨rfl, rfl⟩ ⟨by decide, by decide⟩ ⟨by decide, by decide⟩ (fun r48 h49 hf => ?_)
      refine p_icmp_ge (tgt := 334) (q := r46 ≥ r48) dX11_finds_318 (by decide) Iff.rfl (fun hc => ?_) (fun hc => ?_)
      · replace hf := Eq.mp (if_pos hc) hf
        refine p_aload_n dX11_finds_334 rfl 0 rfl ?_
        refine p_dup dX11_finds_335 (fun _ q => by cases q) ?_
        refine p_get (c := 11) (vi (h49 a0 58)) dX11_finds_336 58 tb_951 (by decide) (by decide) (Or.inl rfl) h0 rfl rfl ?_
        refine p_iconst dX11_finds_339 (by decide) ?_
        refine p_iadd dX11_finds_340 ?_
        refine p_puti (c := 11) dX11_finds_341 58 tb_951 (by decide) (by decide) (Or.inl rfl) h0 rfl rfl (fun _ => by decide) (up h49 a0 58 (w32 ((h49 a0 58) + 1))) rfl ?_
        replace hf := hb_e hf
        generalize up h49 a0 58 (w32 ((h49 a0 58) + 1)) = h50 at hf ⊢
        refine p_iload_n dX11_finds_344 rfl 1 rfl ?_
        refine p_aload_n dX11_finds_345 rfl 0 rfl ?_
        refine p_get (c := 11) (vi (h50 a0 57)) dX11_finds_346 57 tb_950 (by decide) (by decide) (Or.inl rfl) h0 rfl rfl ?_
        refine p_ixor dX11_finds_349 ?_
        refine p_istore (ls' := [(4, vi ((i32 v3 ^^^ i32 (h50 a0 57)).toInt)), (0, vr 11 a0 0), (3, vi v3)]) dX11_finds_350 (by decide) rfl ?_
        replace hf := vb_e hf
        generalize ((i32 v3 ^^^ i32 (h50 a0 57)).toInt) = z51 at hf ⊢
        refine p_iload_n dX11_finds_352 rfl 2 rfl ?_
        refine p_iload dX11_finds_353 0 rfl ?_
        refine p_iand dX11_finds_355 ?_
        refine p_iload dX11_finds_356 0 rfl ?_
        refine p_ineg dX11_finds_358 ?_
        refine p_iand dX11_finds_359 ?_
        refine p_if_eq (tgt := 368) (q := (i32 ((i32 v3 &&& i32 z51).toInt) &&& i32 (w32 (-z51))).toInt = 0) dX11_finds_360 (by decide) Iff.rfl (fun hc => ?_) (fun hc => ?_)
        · replace hf := Eq.mp (if_pos hc) hf
          refine p_sub (ls' := [(0, vr 11 a0 0), (3, vi v3)]) [1, 2] rfl ?_
          exact t_X11_finds_368 h0 hB hX374 _ _ hf
        · replace hf := Eq.mp (if_neg hc) hf
          refine p_aload_n dX11_finds_363 rfl 1 rfl ?_
          refine p_iload_n dX11_finds_364 rfl 2 rfl ?_
          refine p_puti (c := 11) dX11_finds_365 57 tb_950 (by decide) (by decide) (Or.inl rfl) h0 rfl rfl (fun _ => by decide) (up h50 a0 57 v3) rfl ?_
          replace hf := hb_e hf
          generalize up h50 a0 57 v3 = h52 at hf ⊢
          refine p_sub (ls' := [(0, vr 11 a0 0), (3, vi v3)]) [1, 2] rfl ?_
          exact t_X11_finds_368 h0 hB hX374 _ _ hf
      · replace hf := Eq.mp (if_neg hc) hf
        exact t_X11_finds_321 h0 hB hX374 _ _ hf
  · replace hf := Eq.mp (if_neg hc) hf
    refine p_goto (tgt := 368) dX11_finds_296 (by decide) ?_
    exact t_X11_finds_368 h0 hB hX374 _ _ hf
def w_X11_finds_256 (K : Int → Hh → Prop) (X374 : Hh → Prop) (a0 : Int) : Nat → Int → Hh → Prop
  | 0, _, _ => False
  | n + 1, v3, h => if v3 ≥ (i32 1 <<< (i32 (h a0 56) &&& 31)).toInt then (X374  h) else (if h a0 57 = (-1) then (w_X11_finds_288 K (w_X11_finds_256 K X374 a0 n) X374 a0 v3 h) else (w_X11_bits v3 h (fun r53 h54 => w_X11_bits (h54 a0 57) h54 (fun r55 h56 => if r53 > r55 then (w_X11_finds_368 K (w_X11_finds_256 K X374 a0 n) X374 a0 v3 h56) else (w_X11_finds_288 K (w_X11_finds_256 K X374 a0 n) X374 a0 v3 h56)))))
set_option maxRecDepth 100000 in
set_option maxHeartbeats 4000000 in
theorem t_X11_finds_256 {G : Gx} {n0 : Int} {K : Int → Hh → Prop} {X374 : Hh → Prop} {a0 : Int} (h0 : 0 ≤ a0) (hX374 : ∀ (h : Hh), X374  h → PW G M_X11_finds rm_X11_finds 0 0 [] n0 K 374 [(0, vr 11 a0 0)] [] [] 0 0 h) : ∀ (n : Nat) (v3 : Int) (h : Hh), w_X11_finds_256 K X374 a0 n v3 h → PW G M_X11_finds rm_X11_finds 0 0 [] n0 K 256 [(0, vr 11 a0 0), (3, vi v3)] [] [] 0 0 h := by
  intro n
  induction n with
  | zero =>
    intro v3 h hf
    rw [w_X11_finds_256] at hf
    exact hf.elim
  | succ n ih =>
    intro v3 h hf
    rw [w_X11_finds_256] at hf
    refine p_iload_n dX11_finds_256 rfl 1 rfl ?_
    refine p_iconst dX11_finds_257 (by decide) ?_
    refine p_aload_n dX11_finds_258 rfl 0 rfl ?_
    refine p_get (c := 11) (vi (h a0 56)) dX11_finds_259 56 tb_949 (by decide) (by decide) (Or.inl rfl) h0 rfl rfl ?_
    refine p_ishl dX11_finds_262 ?_
    refine p_icmp_ge (tgt := 374) (q := v3 ≥ (i32 1 <<< (i32 (h a0 56) &&& 31)).toInt) dX11_finds_263 (by decide) Iff.rfl (fun hc => ?_) (fun hc => ?_)
    · replace hf := Eq.mp (if_pos hc) hf
      refine p_sub (ls' := [(0, vr 11 a0 0)]) [0] rfl ?_
      exact hX374  _ hf
    · replace hf := Eq.mp (if_neg hc) hf
      refine p_aload_n dX11_finds_266 rfl 0 rfl ?_
      refine p_get (c := 11) (vi (h a0 57)) dX11_finds_267 57 tb_950 (by decide) (by decide) (Or.inl rfl) h0 rfl rfl ?_
      refine p_iconst dX11_finds_270 (by decide) ?_
      refine p_icmp_eq (tgt := 288) (q := h a0 57 = (-1)) dX11_finds_271 (by decide) Iff.rfl (fun hc => ?_) (fun hc => ?_)
      · replace hf := Eq.mp (if_pos hc) hf
        exact t_X11_finds_288 h0 ih hX374 _ _ hf
      · replace hf := Eq.mp (if_neg hc) hf
        refine p_iload_n dX11_finds_274 rfl 1 rfl ?_
        refine p_callSi dX11_finds_275 M_X11_bits (Or.inl rfl) [vi v3] (t_X11_bits _ _ _ hf) ok_X11_bits rfl tb_1328 tb_1329 rfl (Nat.le_of_ble_eq_true rfl) ⟨rfl, rfl⟩ ⟨by decide, by decide⟩ ⟨by decide, by decide⟩ (fun r53 h54 hf => ?_)
        refine p_aload_n dX11_finds_278 rfl 0 rfl ?_
        refine p_get (c := 11) (vi (h54 a0 57)) dX11_finds_279 57 tb_950 (by decide) (by decide) (Or.inl rfl) h0 rfl rfl ?_
        refine p_callSi dX11_finds_282 M_X11_bits (Or.inl rfl) [vi (h54 a0 57)] (t_X11_bits _ _ _ hf) ok_X11_bits rfl tb_1328 tb_1329 rfl (Nat.le_of_ble_eq_true rfl) ⟨rfl, rfl⟩ ⟨by decide, by decide⟩ ⟨by decide, by decide⟩ (fun r55 h56 hf => ?_)
        refine p_icmp_gt (tgt := 368) (q := r53 > r55) dX11_finds_285 (by decide) Iff.rfl (fun hc => ?_) (fun hc => ?_)
        · replace hf := Eq.mp (if_pos hc) hf
          exact t_X11_finds_368 h0 ih hX374 _ _ hf
        · replace hf := Eq.mp (if_neg hc) hf
          exact t_X11_finds_288 h0 ih hX374 _ _ hf
def w_X11_finds_387 (K : Int → Hh → Prop) (a0 : Int) (s0 : Int) (h : Hh) : Prop := (s0 = 0 ∨ s0 = 1) ∧ (K s0 h)
set_option maxRecDepth 100000 in
set_option maxHeartbeats 4000000 in
theorem t_X11_finds_387 {G : Gx} {n0 : Int} {K : Int → Hh → Prop} {a0 : Int} (h0 : 0 ≤ a0)  (s0 : Int) (h : Hh) (hf : w_X11_finds_387 K  a0 s0 h) : PW G M_X11_finds rm_X11_finds 0 0 [] n0 K 387 [] [vi s0] [] 0 0 h := by
  unfold w_X11_finds_387 at hf
  obtain ⟨c58, hf⟩ := hf
  exact p_zret dX11_finds_387 rfl (by decide) (by decide) (fun _ h => absurd h List.not_mem_nil) c58 hf
def w_X11_finds (a0 x1 x2 : Int) (h : Hh) (K : Int → Hh → Prop) : Prop := hb (up h a0 56 0) fun h1 => hb (up h1 a0 57 (-1)) fun h2 => hb (up h2 a0 58 0) fun h3 => w_X11_finds_17 K (fun u12 h11 => w_X11_finds_59 K (fun h40 => w_X11_finds_256 K (fun h57 => if h57 a0 57 = (-1) then (w_X11_finds_387 K  a0 0 h57) else (w_X11_finds_387 K  a0 1 h57)) a0 NF 0 h40) a0 NF u12 1 h11) a0 NF x1 x2 0 h3
set_option maxRecDepth 100000 in
set_option maxHeartbeats 4000000 in
theorem t_X11_finds {G : Gx} (a0 x1 x2 : Int) (h : Hh) (K : Int → Hh → Prop) (h0 : 0 ≤ a0) (hf : w_X11_finds a0 x1 x2 h K) : CT G M_X11_finds rm_X11_finds 0 0 [] [vr 11 a0 0, vi x1, vi x2] h K := by
  unfold w_X11_finds at hf
  refine CT.of (ls0 := [(0, vr 11 a0 0), (1, vi x1), (2, vi x2)]) (plainFor_of_name (by decide +kernel)) (by decide +kernel) (Nat.le_of_ble_eq_true rfl) rfl rfl ?_
  refine p_aload_n dX11_finds_0 rfl 0 rfl ?_
  refine p_iconst dX11_finds_1 (by decide) ?_
  refine p_puti (c := 11) dX11_finds_2 56 tb_949 (by decide) (by decide) (Or.inl rfl) h0 rfl rfl (fun _ => by decide) (up h a0 56 0) rfl ?_
  replace hf := hb_e hf
  generalize up h a0 56 0 = h1 at hf ⊢
  refine p_aload_n dX11_finds_5 rfl 0 rfl ?_
  refine p_iconst dX11_finds_6 (by decide) ?_
  refine p_puti (c := 11) dX11_finds_7 57 tb_950 (by decide) (by decide) (Or.inl rfl) h0 rfl rfl (fun _ => by decide) (up h1 a0 57 (-1)) rfl ?_
  replace hf := hb_e hf
  generalize up h1 a0 57 (-1) = h2 at hf ⊢
  refine p_aload_n dX11_finds_10 rfl 0 rfl ?_
  refine p_iconst dX11_finds_11 (by decide) ?_
  refine p_puti (c := 11) dX11_finds_12 58 tb_951 (by decide) (by decide) (Or.inl rfl) h0 rfl rfl (fun _ => by decide) (up h2 a0 58 0) rfl ?_
  replace hf := hb_e hf
  generalize up h2 a0 58 0 = h3 at hf ⊢
  refine p_iconst dX11_finds_15 (by decide) ?_
  refine p_istore_n (ls' := [(3, vi 0), (0, vr 11 a0 0), (1, vi x1), (2, vi x2)]) dX11_finds_16 rfl (by decide) rfl ?_
  refine p_sub (ls' := [(0, vr 11 a0 0), (1, vi x1), (2, vi x2), (3, vi 0)]) [1, 2, 3, 0] rfl ?_
  refine t_X11_finds_17 h0 ?_ NF _ _ _ _ hf
  · intro u12 h11 hf
    refine p_iconst dX11_finds_57 (by decide) ?_
    refine p_istore_n (ls' := [(3, vi 1), (0, vr 11 a0 0), (1, vi u12)]) dX11_finds_58 rfl (by decide) rfl ?_
    refine p_sub (ls' := [(0, vr 11 a0 0), (1, vi u12), (3, vi 1)]) [1, 2, 0] rfl ?_
    refine t_X11_finds_59 h0 ?_ NF _ _ _ hf
    · intro h40 hf
      refine p_iconst dX11_finds_254 (by decide) ?_
      refine p_istore_n (ls' := [(3, vi 0), (0, vr 11 a0 0)]) dX11_finds_255 rfl (by decide) rfl ?_
      refine p_sub (ls' := [(0, vr 11 a0 0), (3, vi 0)]) [1, 0] rfl ?_
      refine t_X11_finds_256 h0 ?_ NF _ _ hf
      · intro h57 hf
        refine p_aload_n dX11_finds_374 rfl 0 rfl ?_
        refine p_get (c := 11) (vi (h57 a0 57)) dX11_finds_375 57 tb_950 (by decide) (by decide) (Or.inl rfl) h0 rfl rfl ?_
        refine p_iconst dX11_finds_378 (by decide) ?_
        refine p_icmp_eq (tgt := 386) (q := h57 a0 57 = (-1)) dX11_finds_379 (by decide) Iff.rfl (fun hc => ?_) (fun hc => ?_)
        · replace hf := Eq.mp (if_pos hc) hf
          refine p_iconst dX11_finds_386 (by decide) ?_
          refine p_sub (ls' := []) [] rfl ?_
          exact t_X11_finds_387 h0  _ _ hf
        · replace hf := Eq.mp (if_neg hc) hf
          refine p_iconst dX11_finds_382 (by decide) ?_
          refine p_goto (tgt := 387) dX11_finds_383 (by decide) ?_
          refine p_sub (ls' := []) [] rfl ?_
          exact t_X11_finds_387 h0  _ _ hf
theorem ok_X11_finds : mOK M_X11_finds 2 := ⟨tb_1323, tb_9, by decide +kernel⟩
abbrev M_X11_suspects : MD := (yX11_suspects, cX11_suspects, 6, some .int)
abbrev rm_X11_suspects : Room := { frames := 8, cells := 0, slots := 0, locals := 205 }
def w_X11_suspects_33 (K : Int → Hh → Prop) (a0 : Int) (h : Hh) : Prop := K (-1) h
set_option maxRecDepth 100000 in
set_option maxHeartbeats 4000000 in
theorem t_X11_suspects_33 {G : Gx} {n0 : Int} {K : Int → Hh → Prop} {a0 : Int} (h0 : 0 ≤ a0)  (h : Hh) (hf : w_X11_suspects_33 K  a0  h) : PW G M_X11_suspects rm_X11_suspects 0 0 [] n0 K 33 [] [] [] 0 0 h := by
  unfold w_X11_suspects_33 at hf
  refine p_iconst dX11_suspects_33 (by decide) ?_
  exact p_iret dX11_suspects_34 rfl (by decide) (by decide) (fun _ h => absurd h List.not_mem_nil) hf
def w_X11_suspects_107 (K : Int → Hh → Prop) (B : Int → Int → Hh → Prop) (a0 : Int) (v4 v5 : Int) (h : Hh) : Prop := vb (w32 (v5 + 1)) fun z9 => B v4 z9 h
set_option maxRecDepth 100000 in
set_option maxHeartbeats 4000000 in
theorem t_X11_suspects_107 {G : Gx} {n0 : Int} {K : Int → Hh → Prop} {B : Int → Int → Hh → Prop} {a0 : Int} (h0 : 0 ≤ a0) (hB : ∀ (v4 v5 : Int) (h : Hh), B v4 v5 h → PW G M_X11_suspects rm_X11_suspects 0 0 [] n0 K 67 [(0, vr 11 a0 0), (4, vi v4), (5, vi v5)] [] [] 0 0 h)  (v4 v5 : Int) (h : Hh) (hf : w_X11_suspects_107 K B a0 v4 v5 h) : PW G M_X11_suspects rm_X11_suspects 0 0 [] n0 K 107 [(0, vr 11 a0 0), (4, vi v4), (5, vi v5)] [] [] 0 0 h := by
  unfold w_X11_suspects_107 at hf
  refine p_iinc (ls' := [(5, vi (w32 (v5 + 1))), (0, vr 11 a0 0), (4, vi v4)]) dX11_suspects_107 2 rfl (by decide) rfl ?_
  replace hf := vb_e hf
  generalize w32 (v5 + 1) = z9 at hf ⊢
  refine p_goto (tgt := 67) dX11_suspects_110 (by decide) ?_
  refine p_sub (ls' := [(0, vr 11 a0 0), (4, vi v4), (5, vi z9)]) [1, 2, 0] rfl ?_
  exact hB _ _ _ hf
def w_X11_suspects_67 (K : Int → Hh → Prop) (a0 : Int) : Nat → Int → Int → Hh → Prop
  | 0, _, _, _ => False
  | n + 1, v4, v5, h => if v5 ≥ h a0 56 then (K (-1) h) else (if (i32 ((i32 (h a0 57) >>> (i32 v5 &&& 31)).toInt) &&& i32 1).toInt ≠ 0 then (if v4 ≠ 0 then (vb (w32 (v4 + (-1))) fun z8 => w_X11_suspects_107 K (w_X11_suspects_67 K  a0 n) a0 z8 v5 h) else (((0 : Int) ≤ v5 ∧ (v5 : Int) < 12) ∧ (K (h (a0 + 38) v5) h))) else (w_X11_suspects_107 K (w_X11_suspects_67 K  a0 n) a0 v4 v5 h))
set_option maxRecDepth 100000 in
set_option maxHeartbeats 4000000 in
theorem t_X11_suspects_67 {G : Gx} {n0 : Int} {K : Int → Hh → Prop} {a0 : Int} (h0 : 0 ≤ a0) : ∀ (n : Nat) (v4 v5 : Int) (h : Hh), w_X11_suspects_67 K  a0 n v4 v5 h → PW G M_X11_suspects rm_X11_suspects 0 0 [] n0 K 67 [(0, vr 11 a0 0), (4, vi v4), (5, vi v5)] [] [] 0 0 h := by
  intro n
  induction n with
  | zero =>
    intro v4 v5 h hf
    rw [w_X11_suspects_67] at hf
    exact hf.elim
  | succ n ih =>
    intro v4 v5 h hf
    rw [w_X11_suspects_67] at hf
    refine p_iload dX11_suspects_67 2 rfl ?_
    refine p_aload_n dX11_suspects_69 rfl 0 rfl ?_
    refine p_get (c := 11) (vi (h a0 56)) dX11_suspects_70 56 tb_949 (by decide) (by decide) (Or.inl rfl) h0 rfl rfl ?_
    refine p_icmp_ge (tgt := 113) (q := v5 ≥ h a0 56) dX11_suspects_73 (by decide) Iff.rfl (fun hc => ?_) (fun hc => ?_)
    · replace hf := Eq.mp (if_pos hc) hf
      refine p_iconst dX11_suspects_113 (by decide) ?_
      exact p_iret dX11_suspects_114 rfl (by decide) (by decide) (fun _ h => absurd h List.not_mem_nil) hf
    · replace hf := Eq.mp (if_neg hc) hf
      refine p_aload_n dX11_suspects_76 rfl 0 rfl ?_
      refine p_get (c := 11) (vi (h a0 57)) dX11_suspects_77 57 tb_950 (by decide) (by decide) (Or.inl rfl) h0 rfl rfl ?_
      refine p_iload dX11_suspects_80 2 rfl ?_
      refine p_ishr dX11_suspects_82 ?_
      refine p_iconst dX11_suspects_83 (by decide) ?_
      refine p_iand dX11_suspects_84 ?_
      refine p_if_ne (tgt := 91) (q := (i32 ((i32 (h a0 57) >>> (i32 v5 &&& 31)).toInt) &&& i32 1).toInt ≠ 0) dX11_suspects_85 (by decide) Iff.rfl (fun hc => ?_) (fun hc => ?_)
      · replace hf := Eq.mp (if_pos hc) hf
        refine p_iload dX11_suspects_91 1 rfl ?_
        refine p_if_ne (tgt := 104) (q := v4 ≠ 0) dX11_suspects_93 (by decide) Iff.rfl (fun hc => ?_) (fun hc => ?_)
        · replace hf := Eq.mp (if_pos hc) hf
          refine p_iinc (ls' := [(4, vi (w32 (v4 + (-1)))), (0, vr 11 a0 0), (5, vi v5)]) dX11_suspects_104 1 rfl (by decide) rfl ?_
          replace hf := vb_e hf
          generalize w32 (v4 + (-1)) = z8 at hf ⊢
          refine p_sub (ls' := [(0, vr 11 a0 0), (4, vi z8), (5, vi v5)]) [1, 0, 2] rfl ?_
          exact t_X11_suspects_107 h0 ih _ _ _ hf
        · replace hf := Eq.mp (if_neg hc) hf
          refine p_aload_n dX11_suspects_96 rfl 0 rfl ?_
          refine p_lay (c := 11) (tq := 100) (n := 12) dX11_suspects_97 55 38 tb_948 (by decide) (by decide) h0 (by decide) (by decide) (fun _ => rfl) (vr 100 (a0 + 38) 12) rfl ?_
          refine p_iload dX11_suspects_100 2 rfl ?_
          obtain ⟨c10, hf⟩ := hf
          refine p_iald dX11_suspects_102 (nnk h0 (by decide)) c10 ?_
          exact p_iret dX11_suspects_103 rfl (by decide) (by decide) (fun _ h => absurd h List.not_mem_nil) hf
      · replace hf := Eq.mp (if_neg hc) hf
        refine p_goto (tgt := 107) dX11_suspects_88 (by decide) ?_
        exact t_X11_suspects_107 h0 ih _ _ _ hf
def w_X11_suspects_58 (K : Int → Hh → Prop) (a0 : Int) (s0 : Int) (h : Hh) : Prop := K s0 h
set_option maxRecDepth 100000 in
set_option maxHeartbeats 4000000 in
theorem t_X11_suspects_58 {G : Gx} {n0 : Int} {K : Int → Hh → Prop} {a0 : Int} (h0 : 0 ≤ a0)  (s0 : Int) (h : Hh) (hf : w_X11_suspects_58 K  a0 s0 h) : PW G M_X11_suspects rm_X11_suspects 0 0 [] n0 K 58 [] [vi s0] [] 0 0 h := by
  unfold w_X11_suspects_58 at hf
  exact p_iret dX11_suspects_58 rfl (by decide) (by decide) (fun _ h => absurd h List.not_mem_nil) hf
def w_X11_suspects (a0 x1 x2 x3 : Int) (h : Hh) (K : Int → Hh → Prop) : Prop := w_X11_isChart a0 x1 h (fun r1 h2 => if r1 = 0 then (w_X11_suspects_33 K  a0  h2) else (w_X11_in x2 0 20 h2 (fun r3 h4 => if r3 = 0 then (w_X11_suspects_33 K  a0  h4) else (if x3 < 0 then (w_X11_suspects_33 K  a0  h4) else (w_X11_finds a0 x1 x2 h4 (fun r5 h6 => if r5 ≠ 0 then (if x3 ≥ 2 then (vb (w32 (x3 - 2)) fun z7 => w_X11_suspects_67 K  a0 NF z7 0 h6) else (if x3 ≠ 0 then (w_X11_suspects_58 K  a0 (h6 a0 58) h6) else (w_X11_bits (h6 a0 57) h6 (fun r11 h12 => w_X11_suspects_58 K  a0 r11 h12)))) else (w_X11_suspects_33 K  a0  h6)))))))
set_option maxRecDepth 100000 in
set_option maxHeartbeats 4000000 in
theorem t_X11_suspects {G : Gx} (a0 x1 x2 x3 : Int) (h : Hh) (K : Int → Hh → Prop) (h0 : 0 ≤ a0) (hf : w_X11_suspects a0 x1 x2 x3 h K) : CT G M_X11_suspects rm_X11_suspects 0 0 [] [vr 11 a0 0, vi x1, vi x2, vi x3] h K := by
  unfold w_X11_suspects at hf
  refine CT.of (ls0 := [(0, vr 11 a0 0), (1, vi x1), (2, vi x2), (3, vi x3)]) (plainFor_of_name (by decide +kernel)) (by decide +kernel) (Nat.le_of_ble_eq_true rfl) rfl rfl ?_
  refine p_aload_n dX11_suspects_0 rfl 0 rfl ?_
  refine p_iload_n dX11_suspects_1 rfl 1 rfl ?_
  refine p_callVi dX11_suspects_2 M_X11_isChart (Or.inr rfl) [vi x1] (t_X11_isChart _ _ _ _ h0 hf) ok_X11_isChart rfl (c := 11) (by decide) h0 rfl tb_1165 ⟨tb_1167, ts_81⟩ rfl (Nat.le_of_ble_eq_true rfl) ⟨rfl, rfl⟩ ⟨by decide, by decide⟩ ⟨by decide, by decide⟩ (fun r1 h2 hf => ?_)
  refine p_if_eq (tgt := 33) (q := r1 = 0) dX11_suspects_5 (by decide) Iff.rfl (fun hc => ?_) (fun hc => ?_)
  · replace hf := Eq.mp (if_pos hc) hf
    refine p_sub (ls' := []) [] rfl ?_
    exact t_X11_suspects_33 h0   _ hf
  · replace hf := Eq.mp (if_neg hc) hf
    refine p_iload_n dX11_suspects_8 rfl 2 rfl ?_
    refine p_i2l dX11_suspects_9 ?_
    refine p_lconst (z := 0) dX11_suspects_10 rfl ?_
    refine p_ldc2 (z := 20) dX11_suspects_11 tb_1311 (by decide) ?_
    refine p_callSi dX11_suspects_14 M_X11_in (Or.inr rfl) [vl x2, vl 0, vl 20] (t_X11_in _ _ _ _ _ hf) ok_X11_in rfl tb_1079 tb_1080 rfl (Nat.le_of_ble_eq_true rfl) ⟨rfl, rfl⟩ ⟨by decide, by decide⟩ ⟨by decide, by decide⟩ (fun r3 h4 hf => ?_)
    refine p_if_eq (tgt := 33) (q := r3 = 0) dX11_suspects_17 (by decide) Iff.rfl (fun hc => ?_) (fun hc => ?_)
    · replace hf := Eq.mp (if_pos hc) hf
      refine p_sub (ls' := []) [] rfl ?_
      exact t_X11_suspects_33 h0   _ hf
    · replace hf := Eq.mp (if_neg hc) hf
      refine p_iload_n dX11_suspects_20 rfl 3 rfl ?_
      refine p_if_lt (tgt := 33) (q := x3 < 0) dX11_suspects_21 (by decide) Iff.rfl (fun hc => ?_) (fun hc => ?_)
      · replace hf := Eq.mp (if_pos hc) hf
        refine p_sub (ls' := []) [] rfl ?_
        exact t_X11_suspects_33 h0   _ hf
      · replace hf := Eq.mp (if_neg hc) hf
        refine p_aload_n dX11_suspects_24 rfl 0 rfl ?_
        refine p_iload_n dX11_suspects_25 rfl 1 rfl ?_
        refine p_iload_n dX11_suspects_26 rfl 2 rfl ?_
        refine p_callVi dX11_suspects_27 M_X11_finds (Or.inr rfl) [vi x1, vi x2] (t_X11_finds _ _ _ _ _ h0 hf) ok_X11_finds rfl (c := 11) (by decide) h0 rfl tb_1320 ⟨tb_1322, ts_99⟩ rfl (Nat.le_of_ble_eq_true rfl) ⟨rfl, rfl⟩ ⟨by decide, by decide⟩ ⟨by decide, by decide⟩ (fun r5 h6 hf => ?_)
        refine p_if_ne (tgt := 35) (q := r5 ≠ 0) dX11_suspects_30 (by decide) Iff.rfl (fun hc => ?_) (fun hc => ?_)
        · replace hf := Eq.mp (if_pos hc) hf
          refine p_iload_n dX11_suspects_35 rfl 3 rfl ?_
          refine p_iconst dX11_suspects_36 (by decide) ?_
          refine p_icmp_ge (tgt := 59) (q := x3 ≥ 2) dX11_suspects_37 (by decide) Iff.rfl (fun hc => ?_) (fun hc => ?_)
          · replace hf := Eq.mp (if_pos hc) hf
            refine p_iload_n dX11_suspects_59 rfl 3 rfl ?_
            refine p_iconst dX11_suspects_60 (by decide) ?_
            refine p_isub dX11_suspects_61 ?_
            refine p_istore (ls' := [(4, vi (w32 (x3 - 2))), (0, vr 11 a0 0), (1, vi x1), (2, vi x2), (3, vi x3)]) dX11_suspects_62 (by decide) rfl ?_
            replace hf := vb_e hf
            generalize (w32 (x3 - 2)) = z7 at hf ⊢
            refine p_iconst dX11_suspects_64 (by decide) ?_
            refine p_istore (ls' := [(5, vi 0), (4, vi z7), (0, vr 11 a0 0), (1, vi x1), (2, vi x2), (3, vi x3)]) dX11_suspects_65 (by decide) rfl ?_
            refine p_sub (ls' := [(0, vr 11 a0 0), (4, vi z7), (5, vi 0)]) [2, 1, 0] rfl ?_
            refine t_X11_suspects_67 h0  NF _ _ _ hf
          · replace hf := Eq.mp (if_neg hc) hf
            refine p_iload_n dX11_suspects_40 rfl 3 rfl ?_
            refine p_if_ne (tgt := 54) (q := x3 ≠ 0) dX11_suspects_41 (by decide) Iff.rfl (fun hc => ?_) (fun hc => ?_)
            · replace hf := Eq.mp (if_pos hc) hf
              refine p_aload_n dX11_suspects_54 rfl 0 rfl ?_
              refine p_get (c := 11) (vi (h6 a0 58)) dX11_suspects_55 58 tb_951 (by decide) (by decide) (Or.inl rfl) h0 rfl rfl ?_
              refine p_sub (ls' := []) [] rfl ?_
              exact t_X11_suspects_58 h0  _ _ hf
            · replace hf := Eq.mp (if_neg hc) hf
              refine p_aload_n dX11_suspects_44 rfl 0 rfl ?_
              refine p_get (c := 11) (vi (h6 a0 57)) dX11_suspects_45 57 tb_950 (by decide) (by decide) (Or.inl rfl) h0 rfl rfl ?_
              refine p_callSi dX11_suspects_48 M_X11_bits (Or.inl rfl) [vi (h6 a0 57)] (t_X11_bits _ _ _ hf) ok_X11_bits rfl tb_1328 tb_1329 rfl (Nat.le_of_ble_eq_true rfl) ⟨rfl, rfl⟩ ⟨by decide, by decide⟩ ⟨by decide, by decide⟩ (fun r11 h12 hf => ?_)
              refine p_goto (tgt := 58) dX11_suspects_51 (by decide) ?_
              refine p_sub (ls' := []) [] rfl ?_
              exact t_X11_suspects_58 h0  _ _ hf
        · replace hf := Eq.mp (if_neg hc) hf
          refine p_sub (ls' := []) [] rfl ?_
          exact t_X11_suspects_33 h0   _ hf
theorem ok_X11_suspects : mOK M_X11_suspects 3 := ⟨tb_1319, tb_9, by decide +kernel⟩
