abbrev M_X6_isBad : MD := (yX6_isBad, cX6_isBad, 4, some .boolean)
abbrev rm_X6_isBad : Room := { frames := 2, cells := 0, slots := 0, locals := 46 }
def w_X6_isBad_18 (K : Int → Hh → Prop) (a0 : Int) (h : Hh) : Prop := K 0 h
set_option maxRecDepth 100000 in
set_option maxHeartbeats 4000000 in
theorem t_X6_isBad_18 {G : Gx} {n0 : Int} {K : Int → Hh → Prop} {a0 : Int} (h0 : 0 ≤ a0)  (h : Hh) (hf : w_X6_isBad_18 K  a0  h) : PW G M_X6_isBad rm_X6_isBad 0 0 [] n0 K 18 [] [] [] 0 0 h := by
  unfold w_X6_isBad_18 at hf
  refine p_iconst dX6_isBad_18 (by decide) ?_
  exact p_zret dX6_isBad_19 rfl (by decide) (by decide) (fun _ q => absurd q List.not_mem_nil) (Or.inl rfl) hf
def w_X6_isBad_58 (K : Int → Hh → Prop) (a0 : Int) (s0 : Int) (h : Hh) : Prop := (s0 = 0 ∨ s0 = 1) ∧ (K s0 h)
set_option maxRecDepth 100000 in
set_option maxHeartbeats 4000000 in
theorem t_X6_isBad_58 {G : Gx} {n0 : Int} {K : Int → Hh → Prop} {a0 : Int} (h0 : 0 ≤ a0)  (s0 : Int) (h : Hh) (hf : w_X6_isBad_58 K  a0 s0 h) : PW G M_X6_isBad rm_X6_isBad 0 0 [] n0 K 58 [] [vi s0] [] 0 0 h := by
  unfold w_X6_isBad_58 at hf
  obtain ⟨c9, hf⟩ := hf
  exact p_zret dX6_isBad_58 rfl (by decide) (by decide) (fun _ q => absurd q List.not_mem_nil) c9 hf
def w_X6_isBad (a0 x1 x2 : Int) (h : Hh) (K : Int → Hh → Prop) : Prop := w_X6_has a0 x1 h (fun r1 h2 => if r1 = 0 then (w_X6_isBad_18 K  a0  h2) else (((0 : Int) ≤ x1 ∧ x1 < 60) ∧ (if h2 (a0 + 6) x1 ≠ (-1) then (w_X6_habitOf a0 (h2 (a0 + 1) x1) h2 (fun r4 h5 => vb (w32 ((h2 (a0 + 6) x1) + r4)) fun z6 => w_J9_abs_0f7a4 (w32 ((h5 (a0 + 4) x1) - z6)) h5 (fun r7 h8 => if r7 ≤ x2 then (w_X6_isBad_58 K  a0 0 h8) else (w_X6_isBad_58 K  a0 1 h8)))) else (w_X6_isBad_18 K  a0  h2))))
set_option maxRecDepth 100000 in
set_option maxHeartbeats 4000000 in
theorem t_X6_isBad {G : Gx} (a0 x1 x2 : Int) (h : Hh) (K : Int → Hh → Prop) (h0 : 0 ≤ a0) (hf : w_X6_isBad a0 x1 x2 h K) : CT G M_X6_isBad rm_X6_isBad 0 0 [] [vr 6 a0 0, vi x1, vi x2] h K := by
  unfold w_X6_isBad at hf
  refine CT.of (ls0 := [(0, vr 6 a0 0), (1, vi x1), (2, vi x2)]) (plainFor_of_name (by decide +kernel)) (by decide +kernel) (Nat.le_of_ble_eq_true rfl) rfl rfl ?_
  refine p_aload_n dX6_isBad_0 rfl 0 rfl ?_
  refine p_iload_n dX6_isBad_1 rfl 1 rfl ?_
  refine p_callVi dX6_isBad_2 M_X6_has (Or.inr rfl) [vi x1] (t_X6_has _ _ _ _ h0 hf) ok_X6_has rfl (c := 6) (by decide) h0 rfl tb_818 ⟨tb_805, ts_59⟩ rfl (Nat.le_of_ble_eq_true rfl) ⟨rfl, rfl⟩ ⟨by decide, by decide⟩ ⟨by decide, by decide⟩ (fun r1 h2 hf => ?_)
  refine p_if_eq (tgt := 18) (q := r1 = 0) dX6_isBad_5 (by decide) Iff.rfl (fun hc => ?_) (fun hc => ?_)
  · replace hf := Eq.mp (if_pos hc) hf
    refine p_sub (ls' := []) [] rfl ?_
    exact t_X6_isBad_18 h0   _ hf
  · replace hf := Eq.mp (if_neg hc) hf
    refine p_aload_n dX6_isBad_8 rfl 0 rfl ?_
    refine p_lay (c := 6) (tq := 100) (n := 60) dX6_isBad_9 5 6 tb_120 (by decide) (by decide) h0 (by decide) (by decide) (fun _ => rfl) (vr 100 (a0 + 6) 60) rfl ?_
    refine p_iload_n dX6_isBad_12 rfl 1 rfl ?_
    obtain ⟨c3, hf⟩ := hf
    refine p_iald dX6_isBad_13 (by omega) c3 ?_
    refine p_iconst dX6_isBad_14 (by decide) ?_
    refine p_icmp_ne (tgt := 20) (q := h2 (a0 + 6) x1 ≠ (-1)) dX6_isBad_15 (by decide) Iff.rfl (fun hc => ?_) (fun hc => ?_)
    · replace hf := Eq.mp (if_pos hc) hf
      refine p_aload_n dX6_isBad_20 rfl 0 rfl ?_
      refine p_lay (c := 6) (tq := 100) (n := 60) dX6_isBad_21 5 6 tb_120 (by decide) (by decide) h0 (by decide) (by decide) (fun _ => rfl) (vr 100 (a0 + 6) 60) rfl ?_
      refine p_iload_n dX6_isBad_24 rfl 1 rfl ?_
      refine p_iald dX6_isBad_25 (by omega) c3 ?_
      refine p_aload_n dX6_isBad_26 rfl 0 rfl ?_
      refine p_aload_n dX6_isBad_27 rfl 0 rfl ?_
      refine p_lay (c := 6) (tq := 100) (n := 60) dX6_isBad_28 0 1 tb_112 (by decide) (by decide) h0 (by decide) (by decide) (fun _ => rfl) (vr 100 (a0 + 1) 60) rfl ?_
      refine p_iload_n dX6_isBad_31 rfl 1 rfl ?_
      refine p_iald dX6_isBad_32 (by omega) c3 ?_
      refine p_callVi dX6_isBad_33 M_X6_habitOf (Or.inl rfl) [vi (h2 (a0 + 1) x1)] (t_X6_habitOf _ _ _ _ h0 hf) ok_X6_habitOf rfl (c := 6) (by decide) h0 rfl tb_819 ⟨tb_821, ts_62⟩ rfl (Nat.le_of_ble_eq_true rfl) ⟨rfl, rfl⟩ ⟨by decide, by decide⟩ ⟨by decide, by decide⟩ (fun r4 h5 hf => ?_)
      refine p_iadd dX6_isBad_36 ?_
      refine p_istore_n (ls' := [(3, vi (w32 ((h2 (a0 + 6) x1) + r4))), (0, vr 6 a0 0), (1, vi x1), (2, vi x2)]) dX6_isBad_37 rfl (by decide) rfl ?_
      replace hf := vb_e hf
      generalize (w32 ((h2 (a0 + 6) x1) + r4)) = z6 at hf ⊢
      refine p_aload_n dX6_isBad_38 rfl 1 rfl ?_
      refine p_lay (c := 6) (tq := 100) (n := 60) dX6_isBad_39 3 4 tb_117 (by decide) (by decide) h0 (by decide) (by decide) (fun _ => rfl) (vr 100 (a0 + 4) 60) rfl ?_
      refine p_iload_n dX6_isBad_42 rfl 2 rfl ?_
      refine p_iald dX6_isBad_43 (by omega) c3 ?_
      refine p_iload_n dX6_isBad_44 rfl 0 rfl ?_
      refine p_isub dX6_isBad_45 ?_
      refine p_callSi dX6_isBad_46 M_J9_abs_0f7a4 (Or.inl rfl) [vi (w32 ((h5 (a0 + 4) x1) - z6))] (t_J9_abs_0f7a4 _ _ _ hf) ok_J9_abs_0f7a4 rfl tb_826 tb_827 rfl (Nat.le_of_ble_eq_true rfl) ⟨rfl, rfl⟩ ⟨by decide, by decide⟩ ⟨by decide, by decide⟩ (fun r7 h8 hf => ?_)
      refine p_iload_n dX6_isBad_49 rfl 3 rfl ?_
      refine p_icmp_le (tgt := 57) (q := r7 ≤ x2) dX6_isBad_50 (by decide) Iff.rfl (fun hc => ?_) (fun hc => ?_)
      · replace hf := Eq.mp (if_pos hc) hf
        refine p_iconst dX6_isBad_57 (by decide) ?_
        refine p_sub (ls' := []) [] rfl ?_
        exact t_X6_isBad_58 h0  _ _ hf
      · replace hf := Eq.mp (if_neg hc) hf
        refine p_iconst dX6_isBad_53 (by decide) ?_
        refine p_goto (tgt := 58) dX6_isBad_54 (by decide) ?_
        refine p_sub (ls' := []) [] rfl ?_
        exact t_X6_isBad_58 h0  _ _ hf
    · replace hf := Eq.mp (if_neg hc) hf
      refine p_sub (ls' := []) [] rfl ?_
      exact t_X6_isBad_18 h0   _ hf
theorem ok_X6_isBad : mOK M_X6_isBad 2 := ⟨tb_817, tb_5, by decide +kernel⟩
abbrev M_X7_kindOf : MD := (yX7_kindOf, cX7_kindOf, 2, some .int)
abbrev rm_X7_kindOf : Room := { frames := 1, cells := 0, slots := 0, locals := 21 }
def w_X7_kindOf_19 (K : Int → Hh → Prop) (a0 : Int) (s0 : Int) (h : Hh) : Prop := K s0 h
set_option maxRecDepth 100000 in
set_option maxHeartbeats 4000000 in
theorem t_X7_kindOf_19 {G : Gx} {n0 : Int} {K : Int → Hh → Prop} {a0 : Int} (h0 : 0 ≤ a0)  (s0 : Int) (h : Hh) (hf : w_X7_kindOf_19 K  a0 s0 h) : PW G M_X7_kindOf rm_X7_kindOf 0 0 [] n0 K 19 [] [vi s0] [] 0 0 h := by
  unfold w_X7_kindOf_19 at hf
  exact p_iret dX7_kindOf_19 rfl (by decide) (by decide) (fun _ q => absurd q List.not_mem_nil) hf
def w_X7_kindOf (a0 x1 : Int) (h : Hh) (K : Int → Hh → Prop) : Prop := w_X7_hasTerm a0 x1 h (fun r1 h2 => if r1 = 0 then (w_X7_kindOf_19 K  a0 (-2147483648) h2) else (((0 : Int) ≤ x1 ∧ x1 < 5) ∧ (w_X7_kindOf_19 K  a0 (h2 (a0 + 1) x1) h2)))
set_option maxRecDepth 100000 in
set_option maxHeartbeats 4000000 in
theorem t_X7_kindOf {G : Gx} (a0 x1 : Int) (h : Hh) (K : Int → Hh → Prop) (h0 : 0 ≤ a0) (hf : w_X7_kindOf a0 x1 h K) : CT G M_X7_kindOf rm_X7_kindOf 0 0 [] [vr 7 a0 0, vi x1] h K := by
  unfold w_X7_kindOf at hf
  refine CT.of (ls0 := [(0, vr 7 a0 0), (1, vi x1)]) (plainFor_of_name (by decide +kernel)) (by decide +kernel) (Nat.le_of_ble_eq_true rfl) rfl rfl ?_
  refine p_aload_n dX7_kindOf_0 rfl 0 rfl ?_
  refine p_iload_n dX7_kindOf_1 rfl 1 rfl ?_
  refine p_callVi dX7_kindOf_2 M_X7_hasTerm (Or.inr rfl) [vi x1] (t_X7_hasTerm _ _ _ _ h0 hf) ok_X7_hasTerm rfl (c := 7) (by decide) h0 rfl tb_394 ⟨tb_396, ts_13⟩ rfl (Nat.le_of_ble_eq_true rfl) ⟨rfl, rfl⟩ ⟨by decide, by decide⟩ ⟨by decide, by decide⟩ (fun r1 h2 hf => ?_)
  refine p_if_eq (tgt := 17) (q := r1 = 0) dX7_kindOf_5 (by decide) Iff.rfl (fun hc => ?_) (fun hc => ?_)
  · replace hf := Eq.mp (if_pos hc) hf
    refine p_ldc (z := (-2147483648)) dX7_kindOf_17 tb_398 (by decide) ?_
    refine p_sub (ls' := []) [] rfl ?_
    exact t_X7_kindOf_19 h0  _ _ hf
  · replace hf := Eq.mp (if_neg hc) hf
    refine p_aload_n dX7_kindOf_8 rfl 0 rfl ?_
    refine p_lay (c := 7) (tq := 100) (n := 5) dX7_kindOf_9 2 1 tb_358 (by decide) (by decide) h0 (by decide) (by decide) (fun _ => rfl) (vr 100 (a0 + 1) 5) rfl ?_
    refine p_iload_n dX7_kindOf_12 rfl 1 rfl ?_
    obtain ⟨c3, hf⟩ := hf
    refine p_iald dX7_kindOf_13 (by omega) c3 ?_
    refine p_goto (tgt := 19) dX7_kindOf_14 (by decide) ?_
    refine p_sub (ls' := []) [] rfl ?_
    exact t_X7_kindOf_19 h0  _ _ hf
theorem ok_X7_kindOf : mOK M_X7_kindOf 1 := ⟨tb_393, tb_10, by decide +kernel⟩
abbrev M_X7_signOf : MD := (yX7_signOf, cX7_signOf, 2, some .int)
abbrev rm_X7_signOf : Room := { frames := 1, cells := 0, slots := 0, locals := 21 }
def w_X7_signOf_19 (K : Int → Hh → Prop) (a0 : Int) (s0 : Int) (h : Hh) : Prop := K s0 h
set_option maxRecDepth 100000 in
set_option maxHeartbeats 4000000 in
theorem t_X7_signOf_19 {G : Gx} {n0 : Int} {K : Int → Hh → Prop} {a0 : Int} (h0 : 0 ≤ a0)  (s0 : Int) (h : Hh) (hf : w_X7_signOf_19 K  a0 s0 h) : PW G M_X7_signOf rm_X7_signOf 0 0 [] n0 K 19 [] [vi s0] [] 0 0 h := by
  unfold w_X7_signOf_19 at hf
  exact p_iret dX7_signOf_19 rfl (by decide) (by decide) (fun _ q => absurd q List.not_mem_nil) hf
def w_X7_signOf (a0 x1 : Int) (h : Hh) (K : Int → Hh → Prop) : Prop := w_X7_hasTerm a0 x1 h (fun r1 h2 => if r1 = 0 then (w_X7_signOf_19 K  a0 (-2147483648) h2) else (((0 : Int) ≤ x1 ∧ x1 < 5) ∧ (w_X7_signOf_19 K  a0 (h2 (a0 + 2) x1) h2)))
set_option maxRecDepth 100000 in
set_option maxHeartbeats 4000000 in
theorem t_X7_signOf {G : Gx} (a0 x1 : Int) (h : Hh) (K : Int → Hh → Prop) (h0 : 0 ≤ a0) (hf : w_X7_signOf a0 x1 h K) : CT G M_X7_signOf rm_X7_signOf 0 0 [] [vr 7 a0 0, vi x1] h K := by
  unfold w_X7_signOf at hf
  refine CT.of (ls0 := [(0, vr 7 a0 0), (1, vi x1)]) (plainFor_of_name (by decide +kernel)) (by decide +kernel) (Nat.le_of_ble_eq_true rfl) rfl rfl ?_
  refine p_aload_n dX7_signOf_0 rfl 0 rfl ?_
  refine p_iload_n dX7_signOf_1 rfl 1 rfl ?_
  refine p_callVi dX7_signOf_2 M_X7_hasTerm (Or.inr rfl) [vi x1] (t_X7_hasTerm _ _ _ _ h0 hf) ok_X7_hasTerm rfl (c := 7) (by decide) h0 rfl tb_394 ⟨tb_396, ts_13⟩ rfl (Nat.le_of_ble_eq_true rfl) ⟨rfl, rfl⟩ ⟨by decide, by decide⟩ ⟨by decide, by decide⟩ (fun r1 h2 hf => ?_)
  refine p_if_eq (tgt := 17) (q := r1 = 0) dX7_signOf_5 (by decide) Iff.rfl (fun hc => ?_) (fun hc => ?_)
  · replace hf := Eq.mp (if_pos hc) hf
    refine p_ldc (z := (-2147483648)) dX7_signOf_17 tb_398 (by decide) ?_
    refine p_sub (ls' := []) [] rfl ?_
    exact t_X7_signOf_19 h0  _ _ hf
  · replace hf := Eq.mp (if_neg hc) hf
    refine p_aload_n dX7_signOf_8 rfl 0 rfl ?_
    refine p_lay (c := 7) (tq := 100) (n := 5) dX7_signOf_9 3 2 tb_359 (by decide) (by decide) h0 (by decide) (by decide) (fun _ => rfl) (vr 100 (a0 + 2) 5) rfl ?_
    refine p_iload_n dX7_signOf_12 rfl 1 rfl ?_
    obtain ⟨c3, hf⟩ := hf
    refine p_iald dX7_signOf_13 (by omega) c3 ?_
    refine p_goto (tgt := 19) dX7_signOf_14 (by decide) ?_
    refine p_sub (ls' := []) [] rfl ?_
    exact t_X7_signOf_19 h0  _ _ hf
theorem ok_X7_signOf : mOK M_X7_signOf 1 := ⟨tb_402, tb_10, by decide +kernel⟩
abbrev M_X7_leastValue : MD := (yX7_leastValue, cX7_leastValue, 1, some .int)
abbrev rm_X7_leastValue : Room := { frames := 0, cells := 0, slots := 0, locals := 0 }
def w_X7_leastValue_19 (K : Int → Hh → Prop) (s0 : Int) (h : Hh) : Prop := K s0 h
set_option maxRecDepth 100000 in
set_option maxHeartbeats 4000000 in
theorem t_X7_leastValue_19 {G : Gx} {n0 : Int} {K : Int → Hh → Prop}  (s0 : Int) (h : Hh) (hf : w_X7_leastValue_19 K   s0 h) : PW G M_X7_leastValue rm_X7_leastValue 0 0 [] n0 K 19 [] [vi s0] [] 0 0 h := by
  unfold w_X7_leastValue_19 at hf
  exact p_iret dX7_leastValue_19 rfl (by decide) (by decide) (fun _ q => absurd q List.not_mem_nil) hf
def w_X7_leastValue (x0 : Int) (h : Hh) (K : Int → Hh → Prop) : Prop := if x0 ≠ 1 then (if x0 ≠ 2 then (w_X7_leastValue_19 K   (-999) h) else (w_X7_leastValue_19 K   1 h)) else (K 0 h)
set_option maxRecDepth 100000 in
set_option maxHeartbeats 4000000 in
theorem t_X7_leastValue {G : Gx} (x0 : Int) (h : Hh) (K : Int → Hh → Prop) (hf : w_X7_leastValue x0 h K) : CT G M_X7_leastValue rm_X7_leastValue 0 0 [] [vi x0] h K := by
  unfold w_X7_leastValue at hf
  refine CT.of (ls0 := [(0, vi x0)]) (plainFor_of_name (by decide +kernel)) (by decide +kernel) (Nat.le_of_ble_eq_true rfl) rfl rfl ?_
  refine p_iload_n dX7_leastValue_0 rfl 0 rfl ?_
  refine p_iconst dX7_leastValue_1 (by decide) ?_
  refine p_icmp_ne (tgt := 7) (q := x0 ≠ 1) dX7_leastValue_2 (by decide) Iff.rfl (fun hc => ?_) (fun hc => ?_)
  · replace hf := Eq.mp (if_pos hc) hf
    refine p_iload_n dX7_leastValue_7 rfl 0 rfl ?_
    refine p_iconst dX7_leastValue_8 (by decide) ?_
    refine p_icmp_ne (tgt := 16) (q := x0 ≠ 2) dX7_leastValue_9 (by decide) Iff.rfl (fun hc => ?_) (fun hc => ?_)
    · replace hf := Eq.mp (if_pos hc) hf
      refine p_sipush dX7_leastValue_16 (by decide) (by decide) ?_
      refine p_sub (ls' := []) [] rfl ?_
      exact t_X7_leastValue_19  _ _ hf
    · replace hf := Eq.mp (if_neg hc) hf
      refine p_iconst dX7_leastValue_12 (by decide) ?_
      refine p_goto (tgt := 19) dX7_leastValue_13 (by decide) ?_
      refine p_sub (ls' := []) [] rfl ?_
      exact t_X7_leastValue_19  _ _ hf
  · replace hf := Eq.mp (if_neg hc) hf
    refine p_iconst dX7_leastValue_5 (by decide) ?_
    exact p_iret dX7_leastValue_6 rfl (by decide) (by decide) (fun _ q => absurd q List.not_mem_nil) hf
theorem ok_X7_leastValue : mOK M_X7_leastValue 1 := ⟨tb_413, tb_10, by decide +kernel⟩
abbrev M_X7_greatestValue : MD := (yX7_greatestValue, cX7_greatestValue, 1, some .int)
abbrev rm_X7_greatestValue : Room := { frames := 0, cells := 0, slots := 0, locals := 0 }
def w_X7_greatestValue_13 (K : Int → Hh → Prop) (s0 : Int) (h : Hh) : Prop := K s0 h
set_option maxRecDepth 100000 in
set_option maxHeartbeats 4000000 in
theorem t_X7_greatestValue_13 {G : Gx} {n0 : Int} {K : Int → Hh → Prop}  (s0 : Int) (h : Hh) (hf : w_X7_greatestValue_13 K   s0 h) : PW G M_X7_greatestValue rm_X7_greatestValue 0 0 [] n0 K 13 [] [vi s0] [] 0 0 h := by
  unfold w_X7_greatestValue_13 at hf
  exact p_iret dX7_greatestValue_13 rfl (by decide) (by decide) (fun _ q => absurd q List.not_mem_nil) hf
def w_X7_greatestValue (x0 : Int) (h : Hh) (K : Int → Hh → Prop) : Prop := if x0 ≠ 1 then (w_X7_greatestValue_13 K   999 h) else (w_X7_greatestValue_13 K   99 h)
set_option maxRecDepth 100000 in
set_option maxHeartbeats 4000000 in
theorem t_X7_greatestValue {G : Gx} (x0 : Int) (h : Hh) (K : Int → Hh → Prop) (hf : w_X7_greatestValue x0 h K) : CT G M_X7_greatestValue rm_X7_greatestValue 0 0 [] [vi x0] h K := by
  unfold w_X7_greatestValue at hf
  refine CT.of (ls0 := [(0, vi x0)]) (plainFor_of_name (by decide +kernel)) (by decide +kernel) (Nat.le_of_ble_eq_true rfl) rfl rfl ?_
  refine p_iload_n dX7_greatestValue_0 rfl 0 rfl ?_
  refine p_iconst dX7_greatestValue_1 (by decide) ?_
  refine p_icmp_ne (tgt := 10) (q := x0 ≠ 1) dX7_greatestValue_2 (by decide) Iff.rfl (fun hc => ?_) (fun hc => ?_)
  · replace hf := Eq.mp (if_pos hc) hf
    refine p_sipush dX7_greatestValue_10 (by decide) (by decide) ?_
    refine p_sub (ls' := []) [] rfl ?_
    exact t_X7_greatestValue_13  _ _ hf
  · replace hf := Eq.mp (if_neg hc) hf
    refine p_bipush dX7_greatestValue_5 (by decide) (by decide) ?_
    refine p_goto (tgt := 13) dX7_greatestValue_7 (by decide) ?_
    refine p_sub (ls' := []) [] rfl ?_
    exact t_X7_greatestValue_13  _ _ hf
theorem ok_X7_greatestValue : mOK M_X7_greatestValue 1 := ⟨tb_416, tb_10, by decide +kernel⟩
abbrev M_X7_canRange : MD := (yX7_canRange, cX7_canRange, 7, some .boolean)
abbrev rm_X7_canRange : Room := { frames := 1, cells := 0, slots := 0, locals := 21 }
def w_X7_canRange_17 (K : Int → Hh → Prop) (a0 : Int) (h : Hh) : Prop := K 0 h
set_option maxRecDepth 100000 in
set_option maxHeartbeats 4000000 in
theorem t_X7_canRange_17 {G : Gx} {n0 : Int} {K : Int → Hh → Prop} {a0 : Int} (h0 : 0 ≤ a0)  (h : Hh) (hf : w_X7_canRange_17 K  a0  h) : PW G M_X7_canRange rm_X7_canRange 0 0 [] n0 K 17 [] [] [] 0 0 h := by
  unfold w_X7_canRange_17 at hf
  refine p_iconst dX7_canRange_17 (by decide) ?_
  exact p_zret dX7_canRange_18 rfl (by decide) (by decide) (fun _ q => absurd q List.not_mem_nil) (Or.inl rfl) hf
def w_X7_canRange_44 (K : Int → Hh → Prop) (a0 : Int) (h : Hh) : Prop := K 0 h
set_option maxRecDepth 100000 in
set_option maxHeartbeats 4000000 in
theorem t_X7_canRange_44 {G : Gx} {n0 : Int} {K : Int → Hh → Prop} {a0 : Int} (h0 : 0 ≤ a0)  (h : Hh) (hf : w_X7_canRange_44 K  a0  h) : PW G M_X7_canRange rm_X7_canRange 0 0 [] n0 K 44 [] [] [] 0 0 h := by
  unfold w_X7_canRange_44 at hf
  refine p_iconst dX7_canRange_44 (by decide) ?_
  exact p_zret dX7_canRange_45 rfl (by decide) (by decide) (fun _ q => absurd q List.not_mem_nil) (Or.inl rfl) hf
def w_X7_canRange_93 (K : Int → Hh → Prop) (a0 : Int) (s0 : Int) (h : Hh) : Prop := (s0 = 0 ∨ s0 = 1) ∧ (K s0 h)
set_option maxRecDepth 100000 in
set_option maxHeartbeats 4000000 in
theorem t_X7_canRange_93 {G : Gx} {n0 : Int} {K : Int → Hh → Prop} {a0 : Int} (h0 : 0 ≤ a0)  (s0 : Int) (h : Hh) (hf : w_X7_canRange_93 K  a0 s0 h) : PW G M_X7_canRange rm_X7_canRange 0 0 [] n0 K 93 [] [vi s0] [] 0 0 h := by
  unfold w_X7_canRange_93 at hf
  obtain ⟨c7, hf⟩ := hf
  exact p_zret dX7_canRange_93 rfl (by decide) (by decide) (fun _ q => absurd q List.not_mem_nil) c7 hf
def w_X7_canRange_92 (K : Int → Hh → Prop) (a0 : Int) (h : Hh) : Prop := w_X7_canRange_93 K  a0 0 h
set_option maxRecDepth 100000 in
set_option maxHeartbeats 4000000 in
theorem t_X7_canRange_92 {G : Gx} {n0 : Int} {K : Int → Hh → Prop} {a0 : Int} (h0 : 0 ≤ a0)  (h : Hh) (hf : w_X7_canRange_92 K  a0  h) : PW G M_X7_canRange rm_X7_canRange 0 0 [] n0 K 92 [] [] [] 0 0 h := by
  unfold w_X7_canRange_92 at hf
  refine p_iconst dX7_canRange_92 (by decide) ?_
  exact t_X7_canRange_93 h0  _ _ hf
def w_X7_canRange (a0 x1 x2 x3 x4 : Int) (h : Hh) (K : Int → Hh → Prop) : Prop := w_X7_hasTerm a0 x1 h (fun r1 h2 => if r1 = 0 then (w_X7_canRange_17 K  a0  h2) else (((0 : Int) ≤ x1 ∧ x1 < 5) ∧ (if h2 (a0 + 3) x1 = 0 then (if x3 < 1 then (w_X7_canRange_44 K  a0  h2) else (if x3 > 500 then (w_X7_canRange_44 K  a0  h2) else (if x4 < 2 then (w_X7_canRange_44 K  a0  h2) else (if x4 ≤ 40 then (vb (w64 (x2 + (w64 (x3 * (w32 (x4 - 1)))))) fun z4 => w_X7_leastValue (h2 (a0 + 1) x1) h2 (fun r5 h6 => if x2 < r5 then (w_X7_canRange_92 K  a0  h6) else (w_X7_greatestValue (h6 (a0 + 1) x1) h6 (fun r8 h9 => if z4 > r8 then (w_X7_canRange_92 K  a0  h9) else (w_X7_canRange_93 K  a0 1 h9))))) else (w_X7_canRange_44 K  a0  h2))))) else (w_X7_canRange_17 K  a0  h2))))
set_option maxRecDepth 100000 in
set_option maxHeartbeats 4000000 in
theorem t_X7_canRange {G : Gx} (a0 x1 x2 x3 x4 : Int) (h : Hh) (K : Int → Hh → Prop) (h0 : 0 ≤ a0) (hf : w_X7_canRange a0 x1 x2 x3 x4 h K) : CT G M_X7_canRange rm_X7_canRange 0 0 [] [vr 7 a0 0, vi x1, vi x2, vi x3, vi x4] h K := by
  unfold w_X7_canRange at hf
  refine CT.of (ls0 := [(0, vr 7 a0 0), (1, vi x1), (2, vi x2), (3, vi x3), (4, vi x4)]) (plainFor_of_name (by decide +kernel)) (by decide +kernel) (Nat.le_of_ble_eq_true rfl) rfl rfl ?_
  refine p_aload_n dX7_canRange_0 rfl 0 rfl ?_
  refine p_iload_n dX7_canRange_1 rfl 1 rfl ?_
  refine p_callVi dX7_canRange_2 M_X7_hasTerm (Or.inr rfl) [vi x1] (t_X7_hasTerm _ _ _ _ h0 hf) ok_X7_hasTerm rfl (c := 7) (by decide) h0 rfl tb_394 ⟨tb_396, ts_13⟩ rfl (Nat.le_of_ble_eq_true rfl) ⟨rfl, rfl⟩ ⟨by decide, by decide⟩ ⟨by decide, by decide⟩ (fun r1 h2 hf => ?_)
  refine p_if_eq (tgt := 17) (q := r1 = 0) dX7_canRange_5 (by decide) Iff.rfl (fun hc => ?_) (fun hc => ?_)
  · replace hf := Eq.mp (if_pos hc) hf
    refine p_sub (ls' := []) [] rfl ?_
    exact t_X7_canRange_17 h0   _ hf
  · replace hf := Eq.mp (if_neg hc) hf
    refine p_aload_n dX7_canRange_8 rfl 0 rfl ?_
    refine p_lay (c := 7) (tq := 100) (n := 5) dX7_canRange_9 4 3 tb_360 (by decide) (by decide) h0 (by decide) (by decide) (fun _ => rfl) (vr 100 (a0 + 3) 5) rfl ?_
    refine p_iload_n dX7_canRange_12 rfl 1 rfl ?_
    obtain ⟨c3, hf⟩ := hf
    refine p_iald dX7_canRange_13 (by omega) c3 ?_
    refine p_if_eq (tgt := 19) (q := h2 (a0 + 3) x1 = 0) dX7_canRange_14 (by decide) Iff.rfl (fun hc => ?_) (fun hc => ?_)
    · replace hf := Eq.mp (if_pos hc) hf
      refine p_iload_n dX7_canRange_19 rfl 3 rfl ?_
      refine p_iconst dX7_canRange_20 (by decide) ?_
      refine p_icmp_lt (tgt := 44) (q := x3 < 1) dX7_canRange_21 (by decide) Iff.rfl (fun hc => ?_) (fun hc => ?_)
      · replace hf := Eq.mp (if_pos hc) hf
        refine p_sub (ls' := []) [] rfl ?_
        exact t_X7_canRange_44 h0   _ hf
      · replace hf := Eq.mp (if_neg hc) hf
        refine p_iload_n dX7_canRange_24 rfl 3 rfl ?_
        refine p_sipush dX7_canRange_25 (by decide) (by decide) ?_
        refine p_icmp_gt (tgt := 44) (q := x3 > 500) dX7_canRange_28 (by decide) Iff.rfl (fun hc => ?_) (fun hc => ?_)
        · replace hf := Eq.mp (if_pos hc) hf
          refine p_sub (ls' := []) [] rfl ?_
          exact t_X7_canRange_44 h0   _ hf
        · replace hf := Eq.mp (if_neg hc) hf
          refine p_iload dX7_canRange_31 4 rfl ?_
          refine p_iconst dX7_canRange_33 (by decide) ?_
          refine p_icmp_lt (tgt := 44) (q := x4 < 2) dX7_canRange_34 (by decide) Iff.rfl (fun hc => ?_) (fun hc => ?_)
          · replace hf := Eq.mp (if_pos hc) hf
            refine p_sub (ls' := []) [] rfl ?_
            exact t_X7_canRange_44 h0   _ hf
          · replace hf := Eq.mp (if_neg hc) hf
            refine p_iload dX7_canRange_37 4 rfl ?_
            refine p_bipush dX7_canRange_39 (by decide) (by decide) ?_
            refine p_icmp_le (tgt := 46) (q := x4 ≤ 40) dX7_canRange_41 (by decide) Iff.rfl (fun hc => ?_) (fun hc => ?_)
            · replace hf := Eq.mp (if_pos hc) hf
              refine p_iload_n dX7_canRange_46 rfl 2 rfl ?_
              refine p_i2l dX7_canRange_47 ?_
              refine p_iload_n dX7_canRange_48 rfl 3 rfl ?_
              refine p_i2l dX7_canRange_49 ?_
              refine p_iload dX7_canRange_50 4 rfl ?_
              refine p_iconst dX7_canRange_52 (by decide) ?_
              refine p_isub dX7_canRange_53 ?_
              refine p_i2l dX7_canRange_54 ?_
              refine p_lmul dX7_canRange_55 ?_
              refine p_ladd dX7_canRange_56 ?_
              refine p_lstore (ls' := [(5, vl (w64 (x2 + (w64 (x3 * (w32 (x4 - 1))))))), (0, vr 7 a0 0), (1, vi x1), (2, vi x2), (3, vi x3), (4, vi x4)]) dX7_canRange_57 (by decide) rfl ?_
              replace hf := vb_e hf
              generalize (w64 (x2 + (w64 (x3 * (w32 (x4 - 1)))))) = z4 at hf ⊢
              refine p_iload_n dX7_canRange_59 rfl 3 rfl ?_
              refine p_aload_n dX7_canRange_60 rfl 1 rfl ?_
              refine p_lay (c := 7) (tq := 100) (n := 5) dX7_canRange_61 2 1 tb_358 (by decide) (by decide) h0 (by decide) (by decide) (fun _ => rfl) (vr 100 (a0 + 1) 5) rfl ?_
              refine p_iload_n dX7_canRange_64 rfl 2 rfl ?_
              refine p_iald dX7_canRange_65 (by omega) c3 ?_
              refine p_callSi dX7_canRange_66 M_X7_leastValue (Or.inl rfl) [vi (h2 (a0 + 1) x1)] (t_X7_leastValue _ _ _ hf) ok_X7_leastValue rfl tb_411 tb_412 rfl (Nat.le_of_ble_eq_true rfl) ⟨rfl, rfl⟩ ⟨by decide, by decide⟩ ⟨by decide, by decide⟩ (fun r5 h6 hf => ?_)
              refine p_icmp_lt (tgt := 92) (q := x2 < r5) dX7_canRange_69 (by decide) Iff.rfl (fun hc => ?_) (fun hc => ?_)
              · replace hf := Eq.mp (if_pos hc) hf
                refine p_sub (ls' := []) [] rfl ?_
                exact t_X7_canRange_92 h0   _ hf
              · replace hf := Eq.mp (if_neg hc) hf
                refine p_lload dX7_canRange_72 0 rfl ?_
                refine p_aload_n dX7_canRange_74 rfl 1 rfl ?_
                refine p_lay (c := 7) (tq := 100) (n := 5) dX7_canRange_75 2 1 tb_358 (by decide) (by decide) h0 (by decide) (by decide) (fun _ => rfl) (vr 100 (a0 + 1) 5) rfl ?_
                refine p_iload_n dX7_canRange_78 rfl 2 rfl ?_
                refine p_iald dX7_canRange_79 (by omega) c3 ?_
                refine p_callSi dX7_canRange_80 M_X7_greatestValue (Or.inl rfl) [vi (h6 (a0 + 1) x1)] (t_X7_greatestValue _ _ _ hf) ok_X7_greatestValue rfl tb_414 tb_415 rfl (Nat.le_of_ble_eq_true rfl) ⟨rfl, rfl⟩ ⟨by decide, by decide⟩ ⟨by decide, by decide⟩ (fun r8 h9 hf => ?_)
                refine p_i2l dX7_canRange_83 ?_
                refine p_lcmp (z := (if z4 < r8 then (-1) else if z4 = r8 then 0 else 1)) dX7_canRange_84 rfl ?_
                refine p_if_gt (tgt := 92) (q := z4 > r8) dX7_canRange_85 (by decide) (lc_gt z4 r8) (fun hc => ?_) (fun hc => ?_)
                · replace hf := Eq.mp (if_pos hc) hf
                  refine p_sub (ls' := []) [] rfl ?_
                  exact t_X7_canRange_92 h0   _ hf
                · replace hf := Eq.mp (if_neg hc) hf
                  refine p_iconst dX7_canRange_88 (by decide) ?_
                  refine p_goto (tgt := 93) dX7_canRange_89 (by decide) ?_
                  refine p_sub (ls' := []) [] rfl ?_
                  exact t_X7_canRange_93 h0  _ _ hf
            · replace hf := Eq.mp (if_neg hc) hf
              refine p_sub (ls' := []) [] rfl ?_
              exact t_X7_canRange_44 h0   _ hf
    · replace hf := Eq.mp (if_neg hc) hf
      refine p_sub (ls' := []) [] rfl ?_
      exact t_X7_canRange_17 h0   _ hf
theorem ok_X7_canRange : mOK M_X7_canRange 4 := ⟨tb_410, tb_10, by decide +kernel⟩
abbrev M_X7_numberOfValue : MD := (yX7_numberOfValue, cX7_numberOfValue, 2, some .int)
abbrev rm_X7_numberOfValue : Room := { frames := 2, cells := 0, slots := 0, locals := 48 }
def w_X7_numberOfValue_27 (K : Int → Hh → Prop) (s0 : Int) (h : Hh) : Prop := K s0 h
set_option maxRecDepth 100000 in
set_option maxHeartbeats 4000000 in
theorem t_X7_numberOfValue_27 {G : Gx} {n0 : Int} {K : Int → Hh → Prop}  (s0 : Int) (h : Hh) (hf : w_X7_numberOfValue_27 K   s0 h) : PW G M_X7_numberOfValue rm_X7_numberOfValue 0 0 [] n0 K 27 [] [vi s0] [] 0 0 h := by
  unfold w_X7_numberOfValue_27 at hf
  exact p_iret dX7_numberOfValue_27 rfl (by decide) (by decide) (fun _ q => absurd q List.not_mem_nil) hf
def w_X7_numberOfValue (x0 x1 : Int) (h : Hh) (K : Int → Hh → Prop) : Prop := if x0 ≠ 1 then (if x0 ≠ 2 then (w_X7_numberOfValue_27 K   x1 h) else (w_X10_nearest 10000 x1 h (fun r1 h2 => w_X7_numberOfValue_27 K   (w32 r1) h2))) else (K (w32 (x1 * x1)) h)
set_option maxRecDepth 100000 in
set_option maxHeartbeats 4000000 in
theorem t_X7_numberOfValue {G : Gx} (x0 x1 : Int) (h : Hh) (K : Int → Hh → Prop) (hf : w_X7_numberOfValue x0 x1 h K) : CT G M_X7_numberOfValue rm_X7_numberOfValue 0 0 [] [vi x0, vi x1] h K := by
  unfold w_X7_numberOfValue at hf
  refine CT.of (ls0 := [(0, vi x0), (1, vi x1)]) (plainFor_of_name (by decide +kernel)) (by decide +kernel) (Nat.le_of_ble_eq_true rfl) rfl rfl ?_
  refine p_iload_n dX7_numberOfValue_0 rfl 0 rfl ?_
  refine p_iconst dX7_numberOfValue_1 (by decide) ?_
  refine p_icmp_ne (tgt := 9) (q := x0 ≠ 1) dX7_numberOfValue_2 (by decide) Iff.rfl (fun hc => ?_) (fun hc => ?_)
  · replace hf := Eq.mp (if_pos hc) hf
    refine p_iload_n dX7_numberOfValue_9 rfl 0 rfl ?_
    refine p_iconst dX7_numberOfValue_10 (by decide) ?_
    refine p_icmp_ne (tgt := 26) (q := x0 ≠ 2) dX7_numberOfValue_11 (by decide) Iff.rfl (fun hc => ?_) (fun hc => ?_)
    · replace hf := Eq.mp (if_pos hc) hf
      refine p_iload_n dX7_numberOfValue_26 rfl 1 rfl ?_
      refine p_sub (ls' := []) [] rfl ?_
      exact t_X7_numberOfValue_27  _ _ hf
    · replace hf := Eq.mp (if_neg hc) hf
      refine p_ldc2 (z := 10000) dX7_numberOfValue_14 tb_425 (by decide) ?_
      refine p_iload_n dX7_numberOfValue_17 rfl 1 rfl ?_
      refine p_i2l dX7_numberOfValue_18 ?_
      refine p_callSNl dX7_numberOfValue_19 M_X10_nearest rfl [vl 10000, vl x1] (t_X10_nearest _ _ _ _ hf) ok_X10_nearest rfl tb_426 tb_427 rfl (Nat.le_of_ble_eq_true rfl) ⟨rfl, rfl⟩ ⟨by decide, by decide⟩ ⟨by decide, by decide⟩ (fun r1 h2 hf => ?_)
      refine p_l2i dX7_numberOfValue_22 ?_
      refine p_goto (tgt := 27) dX7_numberOfValue_23 (by decide) ?_
      refine p_sub (ls' := []) [] rfl ?_
      exact t_X7_numberOfValue_27  _ _ hf
  · replace hf := Eq.mp (if_neg hc) hf
    refine p_iload_n dX7_numberOfValue_5 rfl 1 rfl ?_
    refine p_iload_n dX7_numberOfValue_6 rfl 1 rfl ?_
    refine p_imul dX7_numberOfValue_7 ?_
    exact p_iret dX7_numberOfValue_8 rfl (by decide) (by decide) (fun _ q => absurd q List.not_mem_nil) hf
theorem ok_X7_numberOfValue : mOK M_X7_numberOfValue 2 := ⟨tb_424, tb_10, by decide +kernel⟩
abbrev M_X7_putOnScale : MD := (yX7_putOnScale, cX7_putOnScale, 4, none)
abbrev rm_X7_putOnScale : Room := { frames := 0, cells := 0, slots := 0, locals := 0 }
def w_X7_putOnScale_2 (K : Int → Hh → Prop) (X26 : Int → Int → Hh → Prop) (a0 : Int) : Nat → Int → Int → Hh → Prop
  | 0, _, _, _ => False
  | n + 1, v1, v2, h => if v2 ≥ h a0 7 then (X26 v1 v2 h) else (((0 : Int) ≤ v2 ∧ v2 < 40) ∧ (if h (a0 + 10) v2 ≥ v1 then (X26 v1 v2 h) else (vb (w32 (v2 + 1)) fun z2 => w_X7_putOnScale_2 K X26 a0 n v1 z2 h)))
set_option maxRecDepth 100000 in
set_option maxHeartbeats 4000000 in
theorem t_X7_putOnScale_2 {G : Gx} {n0 : Int} {K : Int → Hh → Prop} {X26 : Int → Int → Hh → Prop} {a0 : Int} (h0 : 0 ≤ a0) (hX26 : ∀ (v1 v2 : Int) (h : Hh), X26 v1 v2 h → PW G M_X7_putOnScale rm_X7_putOnScale 0 0 [] n0 K 26 [(0, vr 7 a0 0), (1, vi v1), (2, vi v2)] [] [] 0 0 h) : ∀ (n : Nat) (v1 v2 : Int) (h : Hh), w_X7_putOnScale_2 K X26 a0 n v1 v2 h → PW G M_X7_putOnScale rm_X7_putOnScale 0 0 [] n0 K 2 [(0, vr 7 a0 0), (1, vi v1), (2, vi v2)] [] [] 0 0 h := by
  intro n
  induction n with
  | zero =>
    intro v1 v2 h hf
    rw [w_X7_putOnScale_2] at hf
    exact hf.elim
  | succ n ih =>
    intro v1 v2 h hf
    rw [w_X7_putOnScale_2] at hf
    refine p_iload_n dX7_putOnScale_2 rfl 2 rfl ?_
    refine p_aload_n dX7_putOnScale_3 rfl 0 rfl ?_
    refine p_get (c := 7) (vi (h a0 7)) dX7_putOnScale_4 7 tb_363 (by decide) (by decide) (Or.inl rfl) h0 rfl rfl ?_
    refine p_icmp_ge (tgt := 26) (q := v2 ≥ h a0 7) dX7_putOnScale_7 (by decide) Iff.rfl (fun hc => ?_) (fun hc => ?_)
    · replace hf := Eq.mp (if_pos hc) hf
      exact hX26 _ _ _ hf
    · replace hf := Eq.mp (if_neg hc) hf
      refine p_aload_n dX7_putOnScale_10 rfl 0 rfl ?_
      refine p_lay (c := 7) (tq := 100) (n := 40) dX7_putOnScale_11 6 10 tb_362 (by decide) (by decide) h0 (by decide) (by decide) (fun _ => rfl) (vr 100 (a0 + 10) 40) rfl ?_
      refine p_iload_n dX7_putOnScale_14 rfl 2 rfl ?_
      obtain ⟨c1, hf⟩ := hf
      refine p_iald dX7_putOnScale_15 (by omega) c1 ?_
      refine p_iload_n dX7_putOnScale_16 rfl 1 rfl ?_
      refine p_icmp_ge (tgt := 26) (q := h (a0 + 10) v2 ≥ v1) dX7_putOnScale_17 (by decide) Iff.rfl (fun hc => ?_) (fun hc => ?_)
      · replace hf := Eq.mp (if_pos hc) hf
        exact hX26 _ _ _ hf
      · replace hf := Eq.mp (if_neg hc) hf
        refine p_iinc (ls' := [(2, vi (w32 (v2 + 1))), (0, vr 7 a0 0), (1, vi v1)]) dX7_putOnScale_20 2 rfl (by decide) rfl ?_
        replace hf := vb_e hf
        generalize w32 (v2 + 1) = z2 at hf ⊢
        refine p_goto (tgt := 2) dX7_putOnScale_23 (by decide) ?_
        refine p_sub (ls' := [(0, vr 7 a0 0), (1, vi v1), (2, vi z2)]) [1, 2, 0] rfl ?_
        exact ih _ _ _ hf
def w_X7_putOnScale_56 (K : Int → Hh → Prop) (a0 : Int) (h : Hh) : Prop := K 0 h
set_option maxRecDepth 100000 in
set_option maxHeartbeats 4000000 in
theorem t_X7_putOnScale_56 {G : Gx} {n0 : Int} {K : Int → Hh → Prop} {a0 : Int} (h0 : 0 ≤ a0)  (h : Hh) (hf : w_X7_putOnScale_56 K  a0  h) : PW G M_X7_putOnScale rm_X7_putOnScale 0 0 [] n0 K 56 [] [] [] 0 0 h := by
  unfold w_X7_putOnScale_56 at hf
  exact p_vret dX7_putOnScale_56 rfl (by decide) (by decide) (fun _ q => absurd q List.not_mem_nil) hf
def w_X7_putOnScale_62 (K : Int → Hh → Prop) (X87 : Int → Int → Hh → Prop) (a0 : Int) : Nat → Int → Int → Int → Hh → Prop
  | 0, _, _, _, _ => False
  | n + 1, v1, v2, v3, h => if v3 ≤ v2 then (X87 v1 v2 h) else (((0 : Int) ≤ w32 (v3 - 1) ∧ w32 (v3 - 1) < 40) ∧ (((0 : Int) ≤ v3 ∧ v3 < 40) ∧ (hb (up h (a0 + 10) v3 (h (a0 + 10) (w32 (v3 - 1)))) fun h9 => vb (w32 (v3 + (-1))) fun z10 => w_X7_putOnScale_62 K X87 a0 n v1 v2 z10 h9)))
set_option maxRecDepth 100000 in
set_option maxHeartbeats 4000000 in
theorem t_X7_putOnScale_62 {G : Gx} {n0 : Int} {K : Int → Hh → Prop} {X87 : Int → Int → Hh → Prop} {a0 : Int} (h0 : 0 ≤ a0) (hX87 : ∀ (v1 v2 : Int) (h : Hh), X87 v1 v2 h → PW G M_X7_putOnScale rm_X7_putOnScale 0 0 [] n0 K 87 [(0, vr 7 a0 0), (1, vi v1), (2, vi v2)] [] [] 0 0 h) : ∀ (n : Nat) (v1 v2 v3 : Int) (h : Hh), w_X7_putOnScale_62 K X87 a0 n v1 v2 v3 h → PW G M_X7_putOnScale rm_X7_putOnScale 0 0 [] n0 K 62 [(0, vr 7 a0 0), (1, vi v1), (2, vi v2), (3, vi v3)] [] [] 0 0 h := by
  intro n
  induction n with
  | zero =>
    intro v1 v2 v3 h hf
    rw [w_X7_putOnScale_62] at hf
    exact hf.elim
  | succ n ih =>
    intro v1 v2 v3 h hf
    rw [w_X7_putOnScale_62] at hf
    refine p_iload_n dX7_putOnScale_62 rfl 3 rfl ?_
    refine p_iload_n dX7_putOnScale_63 rfl 2 rfl ?_
    refine p_icmp_le (tgt := 87) (q := v3 ≤ v2) dX7_putOnScale_64 (by decide) Iff.rfl (fun hc => ?_) (fun hc => ?_)
    · replace hf := Eq.mp (if_pos hc) hf
      refine p_sub (ls' := [(0, vr 7 a0 0), (1, vi v1), (2, vi v2)]) [0, 1, 2] rfl ?_
      exact hX87 _ _ _ hf
    · replace hf := Eq.mp (if_neg hc) hf
      refine p_aload_n dX7_putOnScale_67 rfl 0 rfl ?_
      refine p_lay (c := 7) (tq := 100) (n := 40) dX7_putOnScale_68 6 10 tb_362 (by decide) (by decide) h0 (by decide) (by decide) (fun _ => rfl) (vr 100 (a0 + 10) 40) rfl ?_
      refine p_iload_n dX7_putOnScale_71 rfl 3 rfl ?_
      refine p_aload_n dX7_putOnScale_72 rfl 0 rfl ?_
      refine p_lay (c := 7) (tq := 100) (n := 40) dX7_putOnScale_73 6 10 tb_362 (by decide) (by decide) h0 (by decide) (by decide) (fun _ => rfl) (vr 100 (a0 + 10) 40) rfl ?_
      refine p_iload_n dX7_putOnScale_76 rfl 3 rfl ?_
      refine p_iconst dX7_putOnScale_77 (by decide) ?_
      refine p_isub dX7_putOnScale_78 ?_
      obtain ⟨c7, hf⟩ := hf
      refine p_iald dX7_putOnScale_79 (by omega) c7 ?_
      obtain ⟨c8, hf⟩ := hf
      refine p_iast dX7_putOnScale_80 (by omega) c8 ?_
      replace hf := hb_e hf
      generalize up h (a0 + 10) v3 (h (a0 + 10) (w32 (v3 - 1))) = h9 at hf ⊢
      refine p_iinc (ls' := [(3, vi (w32 (v3 + (-1)))), (0, vr 7 a0 0), (1, vi v1), (2, vi v2)]) dX7_putOnScale_81 3 rfl (by decide) rfl ?_
      replace hf := vb_e hf
      generalize w32 (v3 + (-1)) = z10 at hf ⊢
      refine p_goto (tgt := 62) dX7_putOnScale_84 (by decide) ?_
      refine p_sub (ls' := [(0, vr 7 a0 0), (1, vi v1), (2, vi v2), (3, vi z10)]) [1, 2, 3, 0] rfl ?_
      exact ih _ _ _ _ hf
def w_X7_putOnScale_57 (K : Int → Hh → Prop) (a0 : Int) (v1 v2 : Int) (h : Hh) : Prop := vb (h a0 7) fun z6 => w_X7_putOnScale_62 K (fun u12 u13 h11 => ((0 : Int) ≤ u13 ∧ u13 < 40) ∧ (hb (up h11 (a0 + 10) u13 u12) fun h15 => hb (up h15 a0 7 (w32 ((h15 a0 7) + 1))) fun h16 => K 0 h16)) a0 NF v1 v2 z6 h
set_option maxRecDepth 100000 in
set_option maxHeartbeats 4000000 in
theorem t_X7_putOnScale_57 {G : Gx} {n0 : Int} {K : Int → Hh → Prop} {a0 : Int} (h0 : 0 ≤ a0)  (v1 v2 : Int) (h : Hh) (hf : w_X7_putOnScale_57 K  a0 v1 v2 h) : PW G M_X7_putOnScale rm_X7_putOnScale 0 0 [] n0 K 57 [(0, vr 7 a0 0), (1, vi v1), (2, vi v2)] [] [] 0 0 h := by
  unfold w_X7_putOnScale_57 at hf
  refine p_aload_n dX7_putOnScale_57 rfl 0 rfl ?_
  refine p_get (c := 7) (vi (h a0 7)) dX7_putOnScale_58 7 tb_363 (by decide) (by decide) (Or.inl rfl) h0 rfl rfl ?_
  refine p_istore_n (ls' := [(3, vi (h a0 7)), (0, vr 7 a0 0), (1, vi v1), (2, vi v2)]) dX7_putOnScale_61 rfl (by decide) rfl ?_
  replace hf := vb_e hf
  generalize (h a0 7) = z6 at hf ⊢
  refine p_sub (ls' := [(0, vr 7 a0 0), (1, vi v1), (2, vi v2), (3, vi z6)]) [1, 2, 3, 0] rfl ?_
  refine t_X7_putOnScale_62 h0 ?_ NF _ _ _ _ hf
  · intro u12 u13 h11 hf
    refine p_aload_n dX7_putOnScale_87 rfl 0 rfl ?_
    refine p_lay (c := 7) (tq := 100) (n := 40) dX7_putOnScale_88 6 10 tb_362 (by decide) (by decide) h0 (by decide) (by decide) (fun _ => rfl) (vr 100 (a0 + 10) 40) rfl ?_
    refine p_iload_n dX7_putOnScale_91 rfl 2 rfl ?_
    refine p_iload_n dX7_putOnScale_92 rfl 1 rfl ?_
    obtain ⟨c14, hf⟩ := hf
    refine p_iast dX7_putOnScale_93 (by omega) c14 ?_
    replace hf := hb_e hf
    generalize up h11 (a0 + 10) u13 u12 = h15 at hf ⊢
    refine p_aload_n dX7_putOnScale_94 rfl 0 rfl ?_
    refine p_dup dX7_putOnScale_95 (fun _ q => by cases q) ?_
    refine p_get (c := 7) (vi (h15 a0 7)) dX7_putOnScale_96 7 tb_363 (by decide) (by decide) (Or.inl rfl) h0 rfl rfl ?_
    refine p_iconst dX7_putOnScale_99 (by decide) ?_
    refine p_iadd dX7_putOnScale_100 ?_
    refine p_puti (c := 7) dX7_putOnScale_101 7 tb_363 (by decide) (by decide) (Or.inl rfl) h0 rfl rfl (fun _ => by decide) (up h15 a0 7 (w32 ((h15 a0 7) + 1))) rfl ?_
    replace hf := hb_e hf
    generalize up h15 a0 7 (w32 ((h15 a0 7) + 1)) = h16 at hf ⊢
    exact p_vret dX7_putOnScale_104 rfl (by decide) (by decide) (fun _ q => absurd q List.not_mem_nil) hf
def w_X7_putOnScale_26 (K : Int → Hh → Prop) (a0 : Int) (v1 v2 : Int) (h : Hh) : Prop := if h a0 7 ≥ 40 then (w_X7_putOnScale_56 K  a0  h) else (if v2 ≥ h a0 7 then (w_X7_putOnScale_57 K  a0 v1 v2 h) else (((0 : Int) ≤ v2 ∧ v2 < 40) ∧ (if h (a0 + 10) v2 ≠ v1 then (w_X7_putOnScale_57 K  a0 v1 v2 h) else (w_X7_putOnScale_56 K  a0  h))))
set_option maxRecDepth 100000 in
set_option maxHeartbeats 4000000 in
theorem t_X7_putOnScale_26 {G : Gx} {n0 : Int} {K : Int → Hh → Prop} {a0 : Int} (h0 : 0 ≤ a0)  (v1 v2 : Int) (h : Hh) (hf : w_X7_putOnScale_26 K  a0 v1 v2 h) : PW G M_X7_putOnScale rm_X7_putOnScale 0 0 [] n0 K 26 [(0, vr 7 a0 0), (1, vi v1), (2, vi v2)] [] [] 0 0 h := by
  unfold w_X7_putOnScale_26 at hf
  refine p_aload_n dX7_putOnScale_26 rfl 0 rfl ?_
  refine p_get (c := 7) (vi (h a0 7)) dX7_putOnScale_27 7 tb_363 (by decide) (by decide) (Or.inl rfl) h0 rfl rfl ?_
  refine p_aload_n dX7_putOnScale_30 rfl 0 rfl ?_
  refine p_lay (c := 7) (tq := 100) (n := 40) dX7_putOnScale_31 6 10 tb_362 (by decide) (by decide) h0 (by decide) (by decide) (fun _ => rfl) (vr 100 (a0 + 10) 40) rfl ?_
  refine p_alen dX7_putOnScale_34 (by decide) (by omega) ?_
  refine p_icmp_ge (tgt := 56) (q := h a0 7 ≥ 40) dX7_putOnScale_35 (by decide) Iff.rfl (fun hc => ?_) (fun hc => ?_)
  · replace hf := Eq.mp (if_pos hc) hf
    refine p_sub (ls' := []) [] rfl ?_
    exact t_X7_putOnScale_56 h0   _ hf
  · replace hf := Eq.mp (if_neg hc) hf
    refine p_iload_n dX7_putOnScale_38 rfl 2 rfl ?_
    refine p_aload_n dX7_putOnScale_39 rfl 0 rfl ?_
    refine p_get (c := 7) (vi (h a0 7)) dX7_putOnScale_40 7 tb_363 (by decide) (by decide) (Or.inl rfl) h0 rfl rfl ?_
    refine p_icmp_ge (tgt := 57) (q := v2 ≥ h a0 7) dX7_putOnScale_43 (by decide) Iff.rfl (fun hc => ?_) (fun hc => ?_)
    · replace hf := Eq.mp (if_pos hc) hf
      exact t_X7_putOnScale_57 h0  _ _ _ hf
    · replace hf := Eq.mp (if_neg hc) hf
      refine p_aload_n dX7_putOnScale_46 rfl 0 rfl ?_
      refine p_lay (c := 7) (tq := 100) (n := 40) dX7_putOnScale_47 6 10 tb_362 (by decide) (by decide) h0 (by decide) (by decide) (fun _ => rfl) (vr 100 (a0 + 10) 40) rfl ?_
      refine p_iload_n dX7_putOnScale_50 rfl 2 rfl ?_
      obtain ⟨c17, hf⟩ := hf
      refine p_iald dX7_putOnScale_51 (by omega) c17 ?_
      refine p_iload_n dX7_putOnScale_52 rfl 1 rfl ?_
      refine p_icmp_ne (tgt := 57) (q := h (a0 + 10) v2 ≠ v1) dX7_putOnScale_53 (by decide) Iff.rfl (fun hc => ?_) (fun hc => ?_)
      · replace hf := Eq.mp (if_pos hc) hf
        exact t_X7_putOnScale_57 h0  _ _ _ hf
      · replace hf := Eq.mp (if_neg hc) hf
        refine p_sub (ls' := []) [] rfl ?_
        exact t_X7_putOnScale_56 h0   _ hf
def w_X7_putOnScale (a0 x1 : Int) (h : Hh) (K : Int → Hh → Prop) : Prop := w_X7_putOnScale_2 K (fun u4 u5 h3 => w_X7_putOnScale_26 K  a0 u4 u5 h3) a0 NF x1 0 h
set_option maxRecDepth 100000 in
set_option maxHeartbeats 4000000 in
theorem t_X7_putOnScale {G : Gx} (a0 x1 : Int) (h : Hh) (K : Int → Hh → Prop) (h0 : 0 ≤ a0) (hf : w_X7_putOnScale a0 x1 h K) : CT G M_X7_putOnScale rm_X7_putOnScale 0 0 [] [vr 7 a0 0, vi x1] h K := by
  unfold w_X7_putOnScale at hf
  refine CT.of (ls0 := [(0, vr 7 a0 0), (1, vi x1)]) (plainFor_of_name (by decide +kernel)) (by decide +kernel) (Nat.le_of_ble_eq_true rfl) rfl rfl ?_
  refine p_iconst dX7_putOnScale_0 (by decide) ?_
  refine p_istore_n (ls' := [(2, vi 0), (0, vr 7 a0 0), (1, vi x1)]) dX7_putOnScale_1 rfl (by decide) rfl ?_
  refine p_sub (ls' := [(0, vr 7 a0 0), (1, vi x1), (2, vi 0)]) [1, 2, 0] rfl ?_
  refine t_X7_putOnScale_2 h0 ?_ NF _ _ _ hf
  · intro u4 u5 h3 hf
    exact t_X7_putOnScale_26 h0  _ _ _ hf
theorem ok_X7_putOnScale : mOK M_X7_putOnScale 1 := ⟨tb_436, tb_10, by decide +kernel⟩
abbrev M_X7_putRange : MD := (yX7_putRange, cX7_putRange, 6, none)
abbrev rm_X7_putRange : Room := { frames := 3, cells := 0, slots := 0, locals := 69 }
def w_X7_putRange_64 (K : Int → Hh → Prop) (B : Int → Int → Int → Int → Int → Hh → Prop) (X70 : Int → Int → Hh → Prop) (a0 : Int) (v1 v2 v3 v4 v5 : Int) (h : Hh) : Prop := vb (w32 (v5 + 1)) fun z8 => B v1 v2 v3 v4 z8 h
set_option maxRecDepth 100000 in
set_option maxHeartbeats 4000000 in
theorem t_X7_putRange_64 {G : Gx} {n0 : Int} {K : Int → Hh → Prop} {B : Int → Int → Int → Int → Int → Hh → Prop} {X70 : Int → Int → Hh → Prop} {a0 : Int} (h0 : 0 ≤ a0) (hB : ∀ (v1 v2 v3 v4 v5 : Int) (h : Hh), B v1 v2 v3 v4 v5 h → PW G M_X7_putRange rm_X7_putRange 0 0 [] n0 K 16 [(0, vr 7 a0 0), (1, vi v1), (2, vi v2), (3, vi v3), (4, vi v4), (5, vi v5)] [] [] 0 0 h) (hX70 : ∀ (v1 v4 : Int) (h : Hh), X70 v1 v4 h → PW G M_X7_putRange rm_X7_putRange 0 0 [] n0 K 70 [(0, vr 7 a0 0), (1, vi v1), (4, vi v4)] [] [] 0 0 h)  (v1 v2 v3 v4 v5 : Int) (h : Hh) (hf : w_X7_putRange_64 K B X70 a0 v1 v2 v3 v4 v5 h) : PW G M_X7_putRange rm_X7_putRange 0 0 [] n0 K 64 [(0, vr 7 a0 0), (1, vi v1), (2, vi v2), (3, vi v3), (4, vi v4), (5, vi v5)] [] [] 0 0 h := by
  unfold w_X7_putRange_64 at hf
  refine p_iinc (ls' := [(5, vi (w32 (v5 + 1))), (0, vr 7 a0 0), (1, vi v1), (2, vi v2), (3, vi v3), (4, vi v4)]) dX7_putRange_64 5 rfl (by decide) rfl ?_
  replace hf := vb_e hf
  generalize w32 (v5 + 1) = z8 at hf ⊢
  refine p_goto (tgt := 16) dX7_putRange_67 (by decide) ?_
  refine p_sub (ls' := [(0, vr 7 a0 0), (1, vi v1), (2, vi v2), (3, vi v3), (4, vi v4), (5, vi z8)]) [1, 2, 3, 4, 5, 0] rfl ?_
  exact hB _ _ _ _ _ _ hf
def w_X7_putRange_16 (K : Int → Hh → Prop) (X70 : Int → Int → Hh → Prop) (a0 : Int) : Nat → Int → Int → Int → Int → Int → Hh → Prop
  | 0, _, _, _, _, _, _ => False
  | n + 1, v1, v2, v3, v4, v5, h => if v5 ≥ v4 then (X70 v1 v4 h) else (((0 : Int) ≤ v1 ∧ v1 < 5) ∧ (w_X7_numberOfValue (h (a0 + 1) v1) (w32 (v2 + (w32 (v3 * v5)))) h (fun r4 h5 => ((0 : Int) ≤ v5 ∧ v5 < 40) ∧ (hb (up h5 (a0 + 4 + 1 + v1) v5 r4) fun h7 => if v1 ≠ 0 then (w_X7_putRange_64 K (w_X7_putRange_16 K X70 a0 n) X70 a0 v1 v2 v3 v4 v5 h7) else (w_X7_putOnScale a0 (h7 (a0 + 4 + 1 + v1) v5) h7 (fun _ h9 => w_X7_putRange_64 K (w_X7_putRange_16 K X70 a0 n) X70 a0 v1 v2 v3 v4 v5 h9))))))
set_option maxRecDepth 100000 in
set_option maxHeartbeats 4000000 in
theorem t_X7_putRange_16 {G : Gx} {n0 : Int} {K : Int → Hh → Prop} {X70 : Int → Int → Hh → Prop} {a0 : Int} (h0 : 0 ≤ a0) (hX70 : ∀ (v1 v4 : Int) (h : Hh), X70 v1 v4 h → PW G M_X7_putRange rm_X7_putRange 0 0 [] n0 K 70 [(0, vr 7 a0 0), (1, vi v1), (4, vi v4)] [] [] 0 0 h) : ∀ (n : Nat) (v1 v2 v3 v4 v5 : Int) (h : Hh), w_X7_putRange_16 K X70 a0 n v1 v2 v3 v4 v5 h → PW G M_X7_putRange rm_X7_putRange 0 0 [] n0 K 16 [(0, vr 7 a0 0), (1, vi v1), (2, vi v2), (3, vi v3), (4, vi v4), (5, vi v5)] [] [] 0 0 h := by
  intro n
  induction n with
  | zero =>
    intro v1 v2 v3 v4 v5 h hf
    rw [w_X7_putRange_16] at hf
    exact hf.elim
  | succ n ih =>
    intro v1 v2 v3 v4 v5 h hf
    rw [w_X7_putRange_16] at hf
    refine p_iload dX7_putRange_16 5 rfl ?_
    refine p_iload dX7_putRange_18 4 rfl ?_
    refine p_icmp_ge (tgt := 70) (q := v5 ≥ v4) dX7_putRange_20 (by decide) Iff.rfl (fun hc => ?_) (fun hc => ?_)
    · replace hf := Eq.mp (if_pos hc) hf
      refine p_sub (ls' := [(0, vr 7 a0 0), (1, vi v1), (4, vi v4)]) [0, 1, 4] rfl ?_
      exact hX70 _ _ _ hf
    · replace hf := Eq.mp (if_neg hc) hf
      refine p_aload_n dX7_putRange_23 rfl 0 rfl ?_
      refine p_lay (c := 7) (tq := 105) (n := 5) dX7_putRange_24 5 4 tb_361 (by decide) (by decide) h0 (by decide) (by decide) (fun _ => rfl) (vr 105 (a0 + 4) 5) rfl ?_
      refine p_iload_n dX7_putRange_27 rfl 1 rfl ?_
      obtain ⟨c3, hf⟩ := hf
      refine p_aaldI dX7_putRange_28 (by omega) c3 ?_
      refine p_iload dX7_putRange_29 5 rfl ?_
      refine p_aload_n dX7_putRange_31 rfl 0 rfl ?_
      refine p_lay (c := 7) (tq := 100) (n := 5) dX7_putRange_32 2 1 tb_358 (by decide) (by decide) h0 (by decide) (by decide) (fun _ => rfl) (vr 100 (a0 + 1) 5) rfl ?_
      refine p_iload_n dX7_putRange_35 rfl 1 rfl ?_
      refine p_iald dX7_putRange_36 (by omega) c3 ?_
      refine p_iload_n dX7_putRange_37 rfl 2 rfl ?_
      refine p_iload_n dX7_putRange_38 rfl 3 rfl ?_
      refine p_iload dX7_putRange_39 5 rfl ?_
      refine p_imul dX7_putRange_41 ?_
      refine p_iadd dX7_putRange_42 ?_
      refine p_callSi dX7_putRange_43 M_X7_numberOfValue (Or.inl rfl) [vi (h (a0 + 1) v1), vi (w32 (v2 + (w32 (v3 * v5))))] (t_X7_numberOfValue _ _ _ _ hf) ok_X7_numberOfValue rfl tb_422 tb_423 rfl (Nat.le_of_ble_eq_true rfl) ⟨rfl, rfl⟩ ⟨by decide, by decide⟩ ⟨by decide, by decide⟩ (fun r4 h5 hf => ?_)
      obtain ⟨c6, hf⟩ := hf
      refine p_iast dX7_putRange_46 (by omega) c6 ?_
      replace hf := hb_e hf
      generalize up h5 (a0 + 4 + 1 + v1) v5 r4 = h7 at hf ⊢
      refine p_iload_n dX7_putRange_47 rfl 1 rfl ?_
      refine p_if_ne (tgt := 64) (q := v1 ≠ 0) dX7_putRange_48 (by decide) Iff.rfl (fun hc => ?_) (fun hc => ?_)
      · replace hf := Eq.mp (if_pos hc) hf
        exact t_X7_putRange_64 h0 ih hX70 _ _ _ _ _ _ hf
      · replace hf := Eq.mp (if_neg hc) hf
        refine p_aload_n dX7_putRange_51 rfl 0 rfl ?_
        refine p_aload_n dX7_putRange_52 rfl 0 rfl ?_
        refine p_lay (c := 7) (tq := 105) (n := 5) dX7_putRange_53 5 4 tb_361 (by decide) (by decide) h0 (by decide) (by decide) (fun _ => rfl) (vr 105 (a0 + 4) 5) rfl ?_
        refine p_iload_n dX7_putRange_56 rfl 1 rfl ?_
        refine p_aaldI dX7_putRange_57 (by omega) c3 ?_
        refine p_iload dX7_putRange_58 5 rfl ?_
        refine p_iald dX7_putRange_60 (by omega) c6 ?_
        refine p_callVv dX7_putRange_61 M_X7_putOnScale rfl [vi (h7 (a0 + 4 + 1 + v1) v5)] (t_X7_putOnScale _ _ _ _ h0 hf) ok_X7_putOnScale rfl (c := 7) (by decide) h0 rfl tb_433 ⟨tb_435, ts_17⟩ rfl (Nat.le_of_ble_eq_true rfl) ⟨rfl, rfl⟩ ⟨by decide, by decide⟩ ⟨by decide, by decide⟩ (fun _ h9 hf => ?_)
        exact t_X7_putRange_64 h0 ih hX70 _ _ _ _ _ _ hf
def w_X7_putRange (a0 x1 x2 x3 x4 : Int) (h : Hh) (K : Int → Hh → Prop) : Prop := w_X7_canRange a0 x1 x2 x3 x4 h (fun r1 h2 => if r1 ≠ 0 then (w_X7_putRange_16 K (fun u11 u12 h10 => ((0 : Int) ≤ u11 ∧ u11 < 5) ∧ (hb (up h10 (a0 + 3) u11 u12) fun h14 => K 0 h14)) a0 NF x1 x2 x3 x4 0 h2) else (K 0 h2))
set_option maxRecDepth 100000 in
set_option maxHeartbeats 4000000 in
theorem t_X7_putRange {G : Gx} (a0 x1 x2 x3 x4 : Int) (h : Hh) (K : Int → Hh → Prop) (h0 : 0 ≤ a0) (hf : w_X7_putRange a0 x1 x2 x3 x4 h K) : CT G M_X7_putRange rm_X7_putRange 0 0 [] [vr 7 a0 0, vi x1, vi x2, vi x3, vi x4] h K := by
  unfold w_X7_putRange at hf
  refine CT.of (ls0 := [(0, vr 7 a0 0), (1, vi x1), (2, vi x2), (3, vi x3), (4, vi x4)]) (plainFor_of_name (by decide +kernel)) (by decide +kernel) (Nat.le_of_ble_eq_true rfl) rfl rfl ?_
  refine p_aload_n dX7_putRange_0 rfl 0 rfl ?_
  refine p_iload_n dX7_putRange_1 rfl 1 rfl ?_
  refine p_iload_n dX7_putRange_2 rfl 2 rfl ?_
  refine p_iload_n dX7_putRange_3 rfl 3 rfl ?_
  refine p_iload dX7_putRange_4 4 rfl ?_
  refine p_callVi dX7_putRange_6 M_X7_canRange (Or.inr rfl) [vi x1, vi x2, vi x3, vi x4] (t_X7_canRange _ _ _ _ _ _ _ h0 hf) ok_X7_canRange rfl (c := 7) (by decide) h0 rfl tb_421 ⟨tb_409, ts_15⟩ rfl (Nat.le_of_ble_eq_true rfl) ⟨rfl, rfl⟩ ⟨by decide, by decide⟩ ⟨by decide, by decide⟩ (fun r1 h2 hf => ?_)
  refine p_if_ne (tgt := 13) (q := r1 ≠ 0) dX7_putRange_9 (by decide) Iff.rfl (fun hc => ?_) (fun hc => ?_)
  · replace hf := Eq.mp (if_pos hc) hf
    refine p_iconst dX7_putRange_13 (by decide) ?_
    refine p_istore (ls' := [(5, vi 0), (0, vr 7 a0 0), (1, vi x1), (2, vi x2), (3, vi x3), (4, vi x4)]) dX7_putRange_14 (by decide) rfl ?_
    refine p_sub (ls' := [(0, vr 7 a0 0), (1, vi x1), (2, vi x2), (3, vi x3), (4, vi x4), (5, vi 0)]) [1, 2, 3, 4, 5, 0] rfl ?_
    refine t_X7_putRange_16 h0 ?_ NF _ _ _ _ _ _ hf
    · intro u11 u12 h10 hf
      refine p_aload_n dX7_putRange_70 rfl 0 rfl ?_
      refine p_lay (c := 7) (tq := 100) (n := 5) dX7_putRange_71 4 3 tb_360 (by decide) (by decide) h0 (by decide) (by decide) (fun _ => rfl) (vr 100 (a0 + 3) 5) rfl ?_
      refine p_iload_n dX7_putRange_74 rfl 1 rfl ?_
      refine p_iload dX7_putRange_75 2 rfl ?_
      obtain ⟨c13, hf⟩ := hf
      refine p_iast dX7_putRange_77 (by omega) c13 ?_
      replace hf := hb_e hf
      generalize up h10 (a0 + 3) u11 u12 = h14 at hf ⊢
      exact p_vret dX7_putRange_78 rfl (by decide) (by decide) (fun _ q => absurd q List.not_mem_nil) hf
  · replace hf := Eq.mp (if_neg hc) hf
    exact p_vret dX7_putRange_12 rfl (by decide) (by decide) (fun _ q => absurd q List.not_mem_nil) hf
theorem ok_X7_putRange : mOK M_X7_putRange 4 := ⟨tb_420, tb_10, by decide +kernel⟩
abbrev M_X7_hasAllRanges : MD := (yX7_hasAllRanges, cX7_hasAllRanges, 2, some .boolean)
abbrev rm_X7_hasAllRanges : Room := { frames := 0, cells := 0, slots := 0, locals := 0 }
def w_X7_hasAllRanges_2 (K : Int → Hh → Prop) (X19 : Hh → Prop) (X27 : Hh → Prop) (a0 : Int) : Nat → Int → Hh → Prop
  | 0, _, _ => False
  | n + 1, v1, h => if v1 ≥ h a0 0 then (X27  h) else (((0 : Int) ≤ v1 ∧ v1 < 5) ∧ (if h (a0 + 3) v1 ≠ 0 then (vb (w32 (v1 + 1)) fun z2 => w_X7_hasAllRanges_2 K X19 X27 a0 n z2 h) else (X19  h)))
set_option maxRecDepth 100000 in
set_option maxHeartbeats 4000000 in
theorem t_X7_hasAllRanges_2 {G : Gx} {n0 : Int} {K : Int → Hh → Prop} {X19 : Hh → Prop} {X27 : Hh → Prop} {a0 : Int} (h0 : 0 ≤ a0) (hX19 : ∀ (h : Hh), X19  h → PW G M_X7_hasAllRanges rm_X7_hasAllRanges 0 0 [] n0 K 19 [] [] [] 0 0 h) (hX27 : ∀ (h : Hh), X27  h → PW G M_X7_hasAllRanges rm_X7_hasAllRanges 0 0 [] n0 K 27 [] [] [] 0 0 h) : ∀ (n : Nat) (v1 : Int) (h : Hh), w_X7_hasAllRanges_2 K X19 X27 a0 n v1 h → PW G M_X7_hasAllRanges rm_X7_hasAllRanges 0 0 [] n0 K 2 [(0, vr 7 a0 0), (1, vi v1)] [] [] 0 0 h := by
  intro n
  induction n with
  | zero =>
    intro v1 h hf
    rw [w_X7_hasAllRanges_2] at hf
    exact hf.elim
  | succ n ih =>
    intro v1 h hf
    rw [w_X7_hasAllRanges_2] at hf
    refine p_iload_n dX7_hasAllRanges_2 rfl 1 rfl ?_
    refine p_aload_n dX7_hasAllRanges_3 rfl 0 rfl ?_
    refine p_get (c := 7) (vi (h a0 0)) dX7_hasAllRanges_4 0 tb_353 (by decide) (by decide) (Or.inl rfl) h0 rfl rfl ?_
    refine p_icmp_ge (tgt := 27) (q := v1 ≥ h a0 0) dX7_hasAllRanges_7 (by decide) Iff.rfl (fun hc => ?_) (fun hc => ?_)
    · replace hf := Eq.mp (if_pos hc) hf
      refine p_sub (ls' := []) [] rfl ?_
      exact hX27  _ hf
    · replace hf := Eq.mp (if_neg hc) hf
      refine p_aload_n dX7_hasAllRanges_10 rfl 0 rfl ?_
      refine p_lay (c := 7) (tq := 100) (n := 5) dX7_hasAllRanges_11 4 3 tb_360 (by decide) (by decide) h0 (by decide) (by decide) (fun _ => rfl) (vr 100 (a0 + 3) 5) rfl ?_
      refine p_iload_n dX7_hasAllRanges_14 rfl 1 rfl ?_
      obtain ⟨c1, hf⟩ := hf
      refine p_iald dX7_hasAllRanges_15 (by omega) c1 ?_
      refine p_if_ne (tgt := 21) (q := h (a0 + 3) v1 ≠ 0) dX7_hasAllRanges_16 (by decide) Iff.rfl (fun hc => ?_) (fun hc => ?_)
      · replace hf := Eq.mp (if_pos hc) hf
        refine p_iinc (ls' := [(1, vi (w32 (v1 + 1))), (0, vr 7 a0 0)]) dX7_hasAllRanges_21 1 rfl (by decide) rfl ?_
        replace hf := vb_e hf
        generalize w32 (v1 + 1) = z2 at hf ⊢
        refine p_goto (tgt := 2) dX7_hasAllRanges_24 (by decide) ?_
        refine p_sub (ls' := [(0, vr 7 a0 0), (1, vi z2)]) [1, 0] rfl ?_
        exact ih _ _ hf
      · replace hf := Eq.mp (if_neg hc) hf
        refine p_sub (ls' := []) [] rfl ?_
        exact hX19  _ hf
def w_X7_hasAllRanges (a0 : Int) (h : Hh) (K : Int → Hh → Prop) : Prop := w_X7_hasAllRanges_2 K (fun h3 => K 0 h3) (fun h4 => K 1 h4) a0 NF 0 h
set_option maxRecDepth 100000 in
set_option maxHeartbeats 4000000 in
theorem t_X7_hasAllRanges {G : Gx} (a0 : Int) (h : Hh) (K : Int → Hh → Prop) (h0 : 0 ≤ a0) (hf : w_X7_hasAllRanges a0 h K) : CT G M_X7_hasAllRanges rm_X7_hasAllRanges 0 0 [] [vr 7 a0 0] h K := by
  unfold w_X7_hasAllRanges at hf
  refine CT.of (ls0 := [(0, vr 7 a0 0)]) (plainFor_of_name (by decide +kernel)) (by decide +kernel) (Nat.le_of_ble_eq_true rfl) rfl rfl ?_
  refine p_iconst dX7_hasAllRanges_0 (by decide) ?_
  refine p_istore_n (ls' := [(1, vi 0), (0, vr 7 a0 0)]) dX7_hasAllRanges_1 rfl (by decide) rfl ?_
  refine p_sub (ls' := [(0, vr 7 a0 0), (1, vi 0)]) [1, 0] rfl ?_
  refine t_X7_hasAllRanges_2 h0 ?_ ?_ NF _ _ hf
  · intro h3 hf
    refine p_iconst dX7_hasAllRanges_19 (by decide) ?_
    exact p_zret dX7_hasAllRanges_20 rfl (by decide) (by decide) (fun _ q => absurd q List.not_mem_nil) (Or.inl rfl) hf
  · intro h4 hf
    refine p_iconst dX7_hasAllRanges_27 (by decide) ?_
    exact p_zret dX7_hasAllRanges_28 rfl (by decide) (by decide) (fun _ q => absurd q List.not_mem_nil) (Or.inr rfl) hf
theorem ok_X7_hasAllRanges : mOK M_X7_hasAllRanges 0 := ⟨tb_457, tb_10, by decide +kernel⟩
abbrev M_X7_numberOf : MD := (yX7_numberOf, cX7_numberOf, 3, some .int)
abbrev rm_X7_numberOf : Room := { frames := 2, cells := 0, slots := 0, locals := 43 }
def w_X7_numberOf_21 (K : Int → Hh → Prop) (a0 : Int) (s0 : Int) (h : Hh) : Prop := K s0 h
set_option maxRecDepth 100000 in
set_option maxHeartbeats 4000000 in
theorem t_X7_numberOf_21 {G : Gx} {n0 : Int} {K : Int → Hh → Prop} {a0 : Int} (h0 : 0 ≤ a0)  (s0 : Int) (h : Hh) (hf : w_X7_numberOf_21 K  a0 s0 h) : PW G M_X7_numberOf rm_X7_numberOf 0 0 [] n0 K 21 [] [vi s0] [] 0 0 h := by
  unfold w_X7_numberOf_21 at hf
  exact p_iret dX7_numberOf_21 rfl (by decide) (by decide) (fun _ q => absurd q List.not_mem_nil) hf
def w_X7_numberOf (a0 x1 x2 : Int) (h : Hh) (K : Int → Hh → Prop) : Prop := w_X7_hasMark a0 x1 x2 h (fun r1 h2 => if r1 = 0 then (w_X7_numberOf_21 K  a0 0 h2) else (((0 : Int) ≤ x1 ∧ x1 < 5) ∧ (((0 : Int) ≤ x2 ∧ x2 < 40) ∧ (w_X7_numberOf_21 K  a0 (h2 (a0 + 4 + 1 + x1) x2) h2))))
set_option maxRecDepth 100000 in
set_option maxHeartbeats 4000000 in
theorem t_X7_numberOf {G : Gx} (a0 x1 x2 : Int) (h : Hh) (K : Int → Hh → Prop) (h0 : 0 ≤ a0) (hf : w_X7_numberOf a0 x1 x2 h K) : CT G M_X7_numberOf rm_X7_numberOf 0 0 [] [vr 7 a0 0, vi x1, vi x2] h K := by
  unfold w_X7_numberOf at hf
  refine CT.of (ls0 := [(0, vr 7 a0 0), (1, vi x1), (2, vi x2)]) (plainFor_of_name (by decide +kernel)) (by decide +kernel) (Nat.le_of_ble_eq_true rfl) rfl rfl ?_
  refine p_aload_n dX7_numberOf_0 rfl 0 rfl ?_
  refine p_iload_n dX7_numberOf_1 rfl 1 rfl ?_
  refine p_iload_n dX7_numberOf_2 rfl 2 rfl ?_
  refine p_callVi dX7_numberOf_3 M_X7_hasMark (Or.inr rfl) [vi x1, vi x2] (t_X7_hasMark _ _ _ _ _ h0 hf) ok_X7_hasMark rfl (c := 7) (by decide) h0 rfl tb_449 ⟨tb_443, ts_18⟩ rfl (Nat.le_of_ble_eq_true rfl) ⟨rfl, rfl⟩ ⟨by decide, by decide⟩ ⟨by decide, by decide⟩ (fun r1 h2 hf => ?_)
  refine p_if_eq (tgt := 20) (q := r1 = 0) dX7_numberOf_6 (by decide) Iff.rfl (fun hc => ?_) (fun hc => ?_)
  · replace hf := Eq.mp (if_pos hc) hf
    refine p_iconst dX7_numberOf_20 (by decide) ?_
    refine p_sub (ls' := []) [] rfl ?_
    exact t_X7_numberOf_21 h0  _ _ hf
  · replace hf := Eq.mp (if_neg hc) hf
    refine p_aload_n dX7_numberOf_9 rfl 0 rfl ?_
    refine p_lay (c := 7) (tq := 105) (n := 5) dX7_numberOf_10 5 4 tb_361 (by decide) (by decide) h0 (by decide) (by decide) (fun _ => rfl) (vr 105 (a0 + 4) 5) rfl ?_
    refine p_iload_n dX7_numberOf_13 rfl 1 rfl ?_
    obtain ⟨c3, hf⟩ := hf
    refine p_aaldI dX7_numberOf_14 (by omega) c3 ?_
    refine p_iload_n dX7_numberOf_15 rfl 2 rfl ?_
    obtain ⟨c4, hf⟩ := hf
    refine p_iald dX7_numberOf_16 (by omega) c4 ?_
    refine p_goto (tgt := 21) dX7_numberOf_17 (by decide) ?_
    refine p_sub (ls' := []) [] rfl ?_
    exact t_X7_numberOf_21 h0  _ _ hf
theorem ok_X7_numberOf : mOK M_X7_numberOf 2 := ⟨tb_448, tb_10, by decide +kernel⟩
abbrev M_X7_isOrder : MD := (yX7_isOrder, cX7_isOrder, 6, some .boolean)
abbrev rm_X7_isOrder : Room := { frames := 0, cells := 0, slots := 0, locals := 0 }
def w_X7_isOrder_7 (K : Int → Hh → Prop) (X47 : Hh → Prop) (X67 : Int → Hh → Prop) (a0 : Int) : Nat → Int → Int → Int → Hh → Prop
  | 0, _, _, _, _ => False
  | n + 1, v2, v3, v4, h => if v4 ≥ h a0 0 then (X67 v2 h) else (vb (Int.tmod v2 10) fun z1 => if z1 < 1 then (X47  h) else (if z1 ≥ h a0 0 then (X47  h) else (if (i32 ((i32 v3 >>> (i32 z1 &&& 31)).toInt) &&& i32 1).toInt ≠ 1 then (vb ((i32 v3 ||| i32 ((i32 1 <<< (i32 z1 &&& 31)).toInt)).toInt) fun z2 => vb (w32 (Int.tdiv v2 10)) fun z3 => vb (w32 (v4 + 1)) fun z4 => w_X7_isOrder_7 K X47 X67 a0 n z3 z2 z4 h) else (X47  h))))
set_option maxRecDepth 100000 in
set_option maxHeartbeats 4000000 in
theorem t_X7_isOrder_7 {G : Gx} {n0 : Int} {K : Int → Hh → Prop} {X47 : Hh → Prop} {X67 : Int → Hh → Prop} {a0 : Int} (h0 : 0 ≤ a0) (hX47 : ∀ (h : Hh), X47  h → PW G M_X7_isOrder rm_X7_isOrder 0 0 [] n0 K 47 [] [] [] 0 0 h) (hX67 : ∀ (v2 : Int) (h : Hh), X67 v2 h → PW G M_X7_isOrder rm_X7_isOrder 0 0 [] n0 K 67 [(2, vi v2)] [] [] 0 0 h) : ∀ (n : Nat) (v2 v3 v4 : Int) (h : Hh), w_X7_isOrder_7 K X47 X67 a0 n v2 v3 v4 h → PW G M_X7_isOrder rm_X7_isOrder 0 0 [] n0 K 7 [(0, vr 7 a0 0), (2, vi v2), (3, vi v3), (4, vi v4)] [] [] 0 0 h := by
  intro n
  induction n with
  | zero =>
    intro v2 v3 v4 h hf
    rw [w_X7_isOrder_7] at hf
    exact hf.elim
  | succ n ih =>
    intro v2 v3 v4 h hf
    rw [w_X7_isOrder_7] at hf
    refine p_iload dX7_isOrder_7 3 rfl ?_
    refine p_aload_n dX7_isOrder_9 rfl 0 rfl ?_
    refine p_get (c := 7) (vi (h a0 0)) dX7_isOrder_10 0 tb_353 (by decide) (by decide) (Or.inl rfl) h0 rfl rfl ?_
    refine p_icmp_ge (tgt := 67) (q := v4 ≥ h a0 0) dX7_isOrder_13 (by decide) Iff.rfl (fun hc => ?_) (fun hc => ?_)
    · replace hf := Eq.mp (if_pos hc) hf
      refine p_sub (ls' := [(2, vi v2)]) [1] rfl ?_
      exact hX67 _ _ hf
    · replace hf := Eq.mp (if_neg hc) hf
      refine p_iload_n dX7_isOrder_16 rfl 1 rfl ?_
      refine p_bipush dX7_isOrder_17 (by decide) (by decide) ?_
      refine p_irem dX7_isOrder_19 (by decide) ?_
      refine p_istore (ls' := [(5, vi (Int.tmod v2 10)), (0, vr 7 a0 0), (2, vi v2), (3, vi v3), (4, vi v4)]) dX7_isOrder_20 (by decide) rfl ?_
      replace hf := vb_e hf
      generalize (Int.tmod v2 10) = z1 at hf ⊢
      refine p_iload dX7_isOrder_22 0 rfl ?_
      refine p_iconst dX7_isOrder_24 (by decide) ?_
      refine p_icmp_lt (tgt := 47) (q := z1 < 1) dX7_isOrder_25 (by decide) Iff.rfl (fun hc => ?_) (fun hc => ?_)
      · replace hf := Eq.mp (if_pos hc) hf
        refine p_sub (ls' := []) [] rfl ?_
        exact hX47  _ hf
      · replace hf := Eq.mp (if_neg hc) hf
        refine p_iload dX7_isOrder_28 0 rfl ?_
        refine p_aload_n dX7_isOrder_30 rfl 1 rfl ?_
        refine p_get (c := 7) (vi (h a0 0)) dX7_isOrder_31 0 tb_353 (by decide) (by decide) (Or.inl rfl) h0 rfl rfl ?_
        refine p_icmp_ge (tgt := 47) (q := z1 ≥ h a0 0) dX7_isOrder_34 (by decide) Iff.rfl (fun hc => ?_) (fun hc => ?_)
        · replace hf := Eq.mp (if_pos hc) hf
          refine p_sub (ls' := []) [] rfl ?_
          exact hX47  _ hf
        · replace hf := Eq.mp (if_neg hc) hf
          refine p_iload_n dX7_isOrder_37 rfl 3 rfl ?_
          refine p_iload dX7_isOrder_38 0 rfl ?_
          refine p_ishr dX7_isOrder_40 ?_
          refine p_iconst dX7_isOrder_41 (by decide) ?_
          refine p_iand dX7_isOrder_42 ?_
          refine p_iconst dX7_isOrder_43 (by decide) ?_
          refine p_icmp_ne (tgt := 49) (q := (i32 ((i32 v3 >>> (i32 z1 &&& 31)).toInt) &&& i32 1).toInt ≠ 1) dX7_isOrder_44 (by decide) Iff.rfl (fun hc => ?_) (fun hc => ?_)
          · replace hf := Eq.mp (if_pos hc) hf
            refine p_iload_n dX7_isOrder_49 rfl 3 rfl ?_
            refine p_iconst dX7_isOrder_50 (by decide) ?_
            refine p_iload dX7_isOrder_51 0 rfl ?_
            refine p_ishl dX7_isOrder_53 ?_
            refine p_ior dX7_isOrder_54 ?_
            refine p_istore_n (ls' := [(3, vi ((i32 v3 ||| i32 ((i32 1 <<< (i32 z1 &&& 31)).toInt)).toInt)), (5, vi z1), (0, vr 7 a0 0), (2, vi v2), (4, vi v4)]) dX7_isOrder_55 rfl (by decide) rfl ?_
            replace hf := vb_e hf
            generalize ((i32 v3 ||| i32 ((i32 1 <<< (i32 z1 &&& 31)).toInt)).toInt) = z2 at hf ⊢
            refine p_iload_n dX7_isOrder_56 rfl 3 rfl ?_
            refine p_bipush dX7_isOrder_57 (by decide) (by decide) ?_
            refine p_idiv dX7_isOrder_59 (by decide) ?_
            refine p_istore_n (ls' := [(2, vi (w32 (Int.tdiv v2 10))), (3, vi z2), (5, vi z1), (0, vr 7 a0 0), (4, vi v4)]) dX7_isOrder_60 rfl (by decide) rfl ?_
            replace hf := vb_e hf
            generalize (w32 (Int.tdiv v2 10)) = z3 at hf ⊢
            refine p_iinc (ls' := [(4, vi (w32 (v4 + 1))), (2, vi z3), (3, vi z2), (5, vi z1), (0, vr 7 a0 0)]) dX7_isOrder_61 4 rfl (by decide) rfl ?_
            replace hf := vb_e hf
            generalize w32 (v4 + 1) = z4 at hf ⊢
            refine p_goto (tgt := 7) dX7_isOrder_64 (by decide) ?_
            refine p_sub (ls' := [(0, vr 7 a0 0), (2, vi z3), (3, vi z2), (4, vi z4)]) [4, 1, 2, 0] rfl ?_
            exact ih _ _ _ _ hf
          · replace hf := Eq.mp (if_neg hc) hf
            refine p_sub (ls' := []) [] rfl ?_
            exact hX47  _ hf
def w_X7_isOrder_47 (K : Int → Hh → Prop) (a0 : Int) (h : Hh) : Prop := K 0 h
set_option maxRecDepth 100000 in
set_option maxHeartbeats 4000000 in
theorem t_X7_isOrder_47 {G : Gx} {n0 : Int} {K : Int → Hh → Prop} {a0 : Int} (h0 : 0 ≤ a0)  (h : Hh) (hf : w_X7_isOrder_47 K  a0  h) : PW G M_X7_isOrder rm_X7_isOrder 0 0 [] n0 K 47 [] [] [] 0 0 h := by
  unfold w_X7_isOrder_47 at hf
  refine p_iconst dX7_isOrder_47 (by decide) ?_
  exact p_zret dX7_isOrder_48 rfl (by decide) (by decide) (fun _ q => absurd q List.not_mem_nil) (Or.inl rfl) hf
def w_X7_isOrder_76 (K : Int → Hh → Prop) (a0 : Int) (s0 : Int) (h : Hh) : Prop := (s0 = 0 ∨ s0 = 1) ∧ (K s0 h)
set_option maxRecDepth 100000 in
set_option maxHeartbeats 4000000 in
theorem t_X7_isOrder_76 {G : Gx} {n0 : Int} {K : Int → Hh → Prop} {a0 : Int} (h0 : 0 ≤ a0)  (s0 : Int) (h : Hh) (hf : w_X7_isOrder_76 K  a0 s0 h) : PW G M_X7_isOrder rm_X7_isOrder 0 0 [] n0 K 76 [] [vi s0] [] 0 0 h := by
  unfold w_X7_isOrder_76 at hf
  obtain ⟨c8, hf⟩ := hf
  exact p_zret dX7_isOrder_76 rfl (by decide) (by decide) (fun _ q => absurd q List.not_mem_nil) c8 hf
def w_X7_isOrder (a0 x1 : Int) (h : Hh) (K : Int → Hh → Prop) : Prop := w_X7_isOrder_7 K (fun h5 => w_X7_isOrder_47 K  a0  h5) (fun u7 h6 => if u7 ≠ 0 then (w_X7_isOrder_76 K  a0 0 h6) else (w_X7_isOrder_76 K  a0 1 h6)) a0 NF x1 0 1 h
set_option maxRecDepth 100000 in
set_option maxHeartbeats 4000000 in
theorem t_X7_isOrder {G : Gx} (a0 x1 : Int) (h : Hh) (K : Int → Hh → Prop) (h0 : 0 ≤ a0) (hf : w_X7_isOrder a0 x1 h K) : CT G M_X7_isOrder rm_X7_isOrder 0 0 [] [vr 7 a0 0, vi x1] h K := by
  unfold w_X7_isOrder at hf
  refine CT.of (ls0 := [(0, vr 7 a0 0), (1, vi x1)]) (plainFor_of_name (by decide +kernel)) (by decide +kernel) (Nat.le_of_ble_eq_true rfl) rfl rfl ?_
  refine p_iload_n dX7_isOrder_0 rfl 1 rfl ?_
  refine p_istore_n (ls' := [(2, vi x1), (0, vr 7 a0 0), (1, vi x1)]) dX7_isOrder_1 rfl (by decide) rfl ?_
  refine p_iconst dX7_isOrder_2 (by decide) ?_
  refine p_istore_n (ls' := [(3, vi 0), (2, vi x1), (0, vr 7 a0 0), (1, vi x1)]) dX7_isOrder_3 rfl (by decide) rfl ?_
  refine p_iconst dX7_isOrder_4 (by decide) ?_
  refine p_istore (ls' := [(4, vi 1), (3, vi 0), (2, vi x1), (0, vr 7 a0 0), (1, vi x1)]) dX7_isOrder_5 (by decide) rfl ?_
  refine p_sub (ls' := [(0, vr 7 a0 0), (2, vi x1), (3, vi 0), (4, vi 1)]) [3, 2, 1, 0] rfl ?_
  refine t_X7_isOrder_7 h0 ?_ ?_ NF _ _ _ _ hf
  · intro h5 hf
    exact t_X7_isOrder_47 h0   _ hf
  · intro u7 h6 hf
    refine p_iload_n dX7_isOrder_67 rfl 0 rfl ?_
    refine p_if_ne (tgt := 75) (q := u7 ≠ 0) dX7_isOrder_68 (by decide) Iff.rfl (fun hc => ?_) (fun hc => ?_)
    · replace hf := Eq.mp (if_pos hc) hf
      refine p_iconst dX7_isOrder_75 (by decide) ?_
      refine p_sub (ls' := []) [] rfl ?_
      exact t_X7_isOrder_76 h0  _ _ hf
    · replace hf := Eq.mp (if_neg hc) hf
      refine p_iconst dX7_isOrder_71 (by decide) ?_
      refine p_goto (tgt := 76) dX7_isOrder_72 (by decide) ?_
      refine p_sub (ls' := []) [] rfl ?_
      exact t_X7_isOrder_76 h0  _ _ hf
theorem ok_X7_isOrder : mOK M_X7_isOrder 1 := ⟨tb_461, tb_10, by decide +kernel⟩
abbrev M_X7_tenthsOf : MD := (yX7_tenthsOf, cX7_tenthsOf, 5, some .int)
abbrev rm_X7_tenthsOf : Room := { frames := 0, cells := 0, slots := 0, locals := 0 }
def w_X7_tenthsOf_37 (K : Int → Hh → Prop) (a0 : Int) (h : Hh) : Prop := K (-1) h
set_option maxRecDepth 100000 in
set_option maxHeartbeats 4000000 in
theorem t_X7_tenthsOf_37 {G : Gx} {n0 : Int} {K : Int → Hh → Prop} {a0 : Int} (h0 : 0 ≤ a0)  (h : Hh) (hf : w_X7_tenthsOf_37 K  a0  h) : PW G M_X7_tenthsOf rm_X7_tenthsOf 0 0 [] n0 K 37 [] [] [] 0 0 h := by
  unfold w_X7_tenthsOf_37 at hf
  refine p_iconst dX7_tenthsOf_37 (by decide) ?_
  exact p_iret dX7_tenthsOf_38 rfl (by decide) (by decide) (fun _ q => absurd q List.not_mem_nil) hf
def w_X7_tenthsOf_41 (K : Int → Hh → Prop) (X71 : Int → Int → Hh → Prop) (a0 : Int) : Nat → Int → Int → Hh → Prop
  | 0, _, _, _ => False
  | n + 1, v1, v3, h => if w32 (v3 + 1) ≥ h a0 7 then (X71 v1 v3 h) else (((0 : Int) ≤ w32 (v3 + 1) ∧ w32 (v3 + 1) < 40) ∧ (if h (a0 + 10) (w32 (v3 + 1)) > v1 then (X71 v1 v3 h) else (vb (w32 (v3 + 1)) fun z4 => w_X7_tenthsOf_41 K X71 a0 n v1 z4 h)))
set_option maxRecDepth 100000 in
set_option maxHeartbeats 4000000 in
theorem t_X7_tenthsOf_41 {G : Gx} {n0 : Int} {K : Int → Hh → Prop} {X71 : Int → Int → Hh → Prop} {a0 : Int} (h0 : 0 ≤ a0) (hX71 : ∀ (v1 v3 : Int) (h : Hh), X71 v1 v3 h → PW G M_X7_tenthsOf rm_X7_tenthsOf 0 0 [] n0 K 71 [(0, vr 7 a0 0), (1, vl v1), (3, vi v3)] [] [] 0 0 h) : ∀ (n : Nat) (v1 v3 : Int) (h : Hh), w_X7_tenthsOf_41 K X71 a0 n v1 v3 h → PW G M_X7_tenthsOf rm_X7_tenthsOf 0 0 [] n0 K 41 [(0, vr 7 a0 0), (1, vl v1), (3, vi v3)] [] [] 0 0 h := by
  intro n
  induction n with
  | zero =>
    intro v1 v3 h hf
    rw [w_X7_tenthsOf_41] at hf
    exact hf.elim
  | succ n ih =>
    intro v1 v3 h hf
    rw [w_X7_tenthsOf_41] at hf
    refine p_iload_n dX7_tenthsOf_41 rfl 2 rfl ?_
    refine p_iconst dX7_tenthsOf_42 (by decide) ?_
    refine p_iadd dX7_tenthsOf_43 ?_
    refine p_aload_n dX7_tenthsOf_44 rfl 0 rfl ?_
    refine p_get (c := 7) (vi (h a0 7)) dX7_tenthsOf_45 7 tb_363 (by decide) (by decide) (Or.inl rfl) h0 rfl rfl ?_
    refine p_icmp_ge (tgt := 71) (q := w32 (v3 + 1) ≥ h a0 7) dX7_tenthsOf_48 (by decide) Iff.rfl (fun hc => ?_) (fun hc => ?_)
    · replace hf := Eq.mp (if_pos hc) hf
      exact hX71 _ _ _ hf
    · replace hf := Eq.mp (if_neg hc) hf
      refine p_aload_n dX7_tenthsOf_51 rfl 0 rfl ?_
      refine p_lay (c := 7) (tq := 100) (n := 40) dX7_tenthsOf_52 6 10 tb_362 (by decide) (by decide) h0 (by decide) (by decide) (fun _ => rfl) (vr 100 (a0 + 10) 40) rfl ?_
      refine p_iload_n dX7_tenthsOf_55 rfl 2 rfl ?_
      refine p_iconst dX7_tenthsOf_56 (by decide) ?_
      refine p_iadd dX7_tenthsOf_57 ?_
      obtain ⟨c3, hf⟩ := hf
      refine p_iald dX7_tenthsOf_58 (by omega) c3 ?_
      refine p_i2l dX7_tenthsOf_59 ?_
      refine p_lload_n dX7_tenthsOf_60 rfl 1 rfl ?_
      refine p_lcmp (z := (if h (a0 + 10) (w32 (v3 + 1)) < v1 then (-1) else if h (a0 + 10) (w32 (v3 + 1)) = v1 then 0 else 1)) dX7_tenthsOf_61 rfl ?_
      refine p_if_gt (tgt := 71) (q := h (a0 + 10) (w32 (v3 + 1)) > v1) dX7_tenthsOf_62 (by decide) (lc_gt (h (a0 + 10) (w32 (v3 + 1))) v1) (fun hc => ?_) (fun hc => ?_)
      · replace hf := Eq.mp (if_pos hc) hf
        exact hX71 _ _ _ hf
      · replace hf := Eq.mp (if_neg hc) hf
        refine p_iinc (ls' := [(3, vi (w32 (v3 + 1))), (0, vr 7 a0 0), (1, vl v1)]) dX7_tenthsOf_65 2 rfl (by decide) rfl ?_
        replace hf := vb_e hf
        generalize w32 (v3 + 1) = z4 at hf ⊢
        refine p_goto (tgt := 41) dX7_tenthsOf_68 (by decide) ?_
        refine p_sub (ls' := [(0, vr 7 a0 0), (1, vl v1), (3, vi z4)]) [1, 2, 0] rfl ?_
        exact ih _ _ _ hf
def w_X7_tenthsOf_138 (K : Int → Hh → Prop) (a0 : Int) (s0 : Int) (h : Hh) : Prop := K s0 h
set_option maxRecDepth 100000 in
set_option maxHeartbeats 4000000 in
theorem t_X7_tenthsOf_138 {G : Gx} {n0 : Int} {K : Int → Hh → Prop} {a0 : Int} (h0 : 0 ≤ a0)  (s0 : Int) (h : Hh) (hf : w_X7_tenthsOf_138 K  a0 s0 h) : PW G M_X7_tenthsOf rm_X7_tenthsOf 0 0 [] n0 K 138 [] [vi s0] [] 0 0 h := by
  unfold w_X7_tenthsOf_138 at hf
  exact p_iret dX7_tenthsOf_138 rfl (by decide) (by decide) (fun _ q => absurd q List.not_mem_nil) hf
def w_X7_tenthsOf_71 (K : Int → Hh → Prop) (a0 : Int) (v1 v3 : Int) (h : Hh) : Prop := if w32 (v3 + 1) < h a0 7 then (((0 : Int) ≤ w32 (v3 + 1) ∧ w32 (v3 + 1) < 40) ∧ (((0 : Int) ≤ v3 ∧ v3 < 40) ∧ (vb (w32 ((h (a0 + 10) (w32 (v3 + 1))) - (h (a0 + 10) v3))) fun z10 => if z10 > 0 then ((z10 ≠ 0) ∧ (w_X7_tenthsOf_138 K  a0 (w32 ((w32 (10 * v3)) + (w32 (w64 (Int.tdiv (w64 (10 * (w64 (v1 - (h (a0 + 10) v3))))) z10))))) h)) else (w_X7_tenthsOf_138 K  a0 (w32 (10 * v3)) h)))) else (K (w32 (10 * v3)) h)
set_option maxRecDepth 100000 in
set_option maxHeartbeats 4000000 in
theorem t_X7_tenthsOf_71 {G : Gx} {n0 : Int} {K : Int → Hh → Prop} {a0 : Int} (h0 : 0 ≤ a0)  (v1 v3 : Int) (h : Hh) (hf : w_X7_tenthsOf_71 K  a0 v1 v3 h) : PW G M_X7_tenthsOf rm_X7_tenthsOf 0 0 [] n0 K 71 [(0, vr 7 a0 0), (1, vl v1), (3, vi v3)] [] [] 0 0 h := by
  unfold w_X7_tenthsOf_71 at hf
  refine p_iload_n dX7_tenthsOf_71 rfl 2 rfl ?_
  refine p_iconst dX7_tenthsOf_72 (by decide) ?_
  refine p_iadd dX7_tenthsOf_73 ?_
  refine p_aload_n dX7_tenthsOf_74 rfl 0 rfl ?_
  refine p_get (c := 7) (vi (h a0 7)) dX7_tenthsOf_75 7 tb_363 (by decide) (by decide) (Or.inl rfl) h0 rfl rfl ?_
  refine p_icmp_lt (tgt := 86) (q := w32 (v3 + 1) < h a0 7) dX7_tenthsOf_78 (by decide) Iff.rfl (fun hc => ?_) (fun hc => ?_)
  · replace hf := Eq.mp (if_pos hc) hf
    refine p_aload_n dX7_tenthsOf_86 rfl 0 rfl ?_
    refine p_lay (c := 7) (tq := 100) (n := 40) dX7_tenthsOf_87 6 10 tb_362 (by decide) (by decide) h0 (by decide) (by decide) (fun _ => rfl) (vr 100 (a0 + 10) 40) rfl ?_
    refine p_iload_n dX7_tenthsOf_90 rfl 2 rfl ?_
    refine p_iconst dX7_tenthsOf_91 (by decide) ?_
    refine p_iadd dX7_tenthsOf_92 ?_
    obtain ⟨c8, hf⟩ := hf
    refine p_iald dX7_tenthsOf_93 (by omega) c8 ?_
    refine p_aload_n dX7_tenthsOf_94 rfl 0 rfl ?_
    refine p_lay (c := 7) (tq := 100) (n := 40) dX7_tenthsOf_95 6 10 tb_362 (by decide) (by decide) h0 (by decide) (by decide) (fun _ => rfl) (vr 100 (a0 + 10) 40) rfl ?_
    refine p_iload_n dX7_tenthsOf_98 rfl 2 rfl ?_
    obtain ⟨c9, hf⟩ := hf
    refine p_iald dX7_tenthsOf_99 (by omega) c9 ?_
    refine p_isub dX7_tenthsOf_100 ?_
    refine p_istore (ls' := [(4, vi (w32 ((h (a0 + 10) (w32 (v3 + 1))) - (h (a0 + 10) v3)))), (0, vr 7 a0 0), (1, vl v1), (3, vi v3)]) dX7_tenthsOf_101 (by decide) rfl ?_
    replace hf := vb_e hf
    generalize (w32 ((h (a0 + 10) (w32 (v3 + 1))) - (h (a0 + 10) v3))) = z10 at hf ⊢
    refine p_iload dX7_tenthsOf_103 0 rfl ?_
    refine p_if_gt (tgt := 115) (q := z10 > 0) dX7_tenthsOf_105 (by decide) Iff.rfl (fun hc => ?_) (fun hc => ?_)
    · replace hf := Eq.mp (if_pos hc) hf
      refine p_bipush dX7_tenthsOf_115 (by decide) (by decide) ?_
      refine p_iload_n dX7_tenthsOf_117 rfl 3 rfl ?_
      refine p_imul dX7_tenthsOf_118 ?_
      refine p_ldc2 (z := 10) dX7_tenthsOf_119 tb_643 (by decide) ?_
      refine p_lload_n dX7_tenthsOf_122 rfl 2 rfl ?_
      refine p_aload_n dX7_tenthsOf_123 rfl 1 rfl ?_
      refine p_lay (c := 7) (tq := 100) (n := 40) dX7_tenthsOf_124 6 10 tb_362 (by decide) (by decide) h0 (by decide) (by decide) (fun _ => rfl) (vr 100 (a0 + 10) 40) rfl ?_
      refine p_iload_n dX7_tenthsOf_127 rfl 3 rfl ?_
      refine p_iald dX7_tenthsOf_128 (by omega) c9 ?_
      refine p_i2l dX7_tenthsOf_129 ?_
      refine p_lsub dX7_tenthsOf_130 ?_
      refine p_lmul dX7_tenthsOf_131 ?_
      refine p_iload dX7_tenthsOf_132 0 rfl ?_
      refine p_i2l dX7_tenthsOf_134 ?_
      obtain ⟨c11, hf⟩ := hf
      refine p_ldiv dX7_tenthsOf_135 c11 ?_
      refine p_l2i dX7_tenthsOf_136 ?_
      refine p_iadd dX7_tenthsOf_137 ?_
      refine p_sub (ls' := []) [] rfl ?_
      exact t_X7_tenthsOf_138 h0  _ _ hf
    · replace hf := Eq.mp (if_neg hc) hf
      refine p_bipush dX7_tenthsOf_108 (by decide) (by decide) ?_
      refine p_iload_n dX7_tenthsOf_110 rfl 3 rfl ?_
      refine p_imul dX7_tenthsOf_111 ?_
      refine p_goto (tgt := 138) dX7_tenthsOf_112 (by decide) ?_
      refine p_sub (ls' := []) [] rfl ?_
      exact t_X7_tenthsOf_138 h0  _ _ hf
  · replace hf := Eq.mp (if_neg hc) hf
    refine p_bipush dX7_tenthsOf_81 (by decide) (by decide) ?_
    refine p_iload_n dX7_tenthsOf_83 rfl 2 rfl ?_
    refine p_imul dX7_tenthsOf_84 ?_
    exact p_iret dX7_tenthsOf_85 rfl (by decide) (by decide) (fun _ q => absurd q List.not_mem_nil) hf
def w_X7_tenthsOf (a0 x1 : Int) (h : Hh) (K : Int → Hh → Prop) : Prop := if h a0 7 < 1 then (w_X7_tenthsOf_37 K  a0  h) else (((0 : Int) ≤ 0 ∧ 0 < 40) ∧ (if x1 < h (a0 + 10) 0 then (w_X7_tenthsOf_37 K  a0  h) else (((0 : Int) ≤ w32 ((h a0 7) - 1) ∧ w32 ((h a0 7) - 1) < 40) ∧ (if x1 ≤ h (a0 + 10) (w32 ((h a0 7) - 1)) then (w_X7_tenthsOf_41 K (fun u6 u7 h5 => w_X7_tenthsOf_71 K  a0 u6 u7 h5) a0 NF x1 0 h) else (w_X7_tenthsOf_37 K  a0  h)))))
set_option maxRecDepth 100000 in
set_option maxHeartbeats 4000000 in
theorem t_X7_tenthsOf {G : Gx} (a0 x1 : Int) (h : Hh) (K : Int → Hh → Prop) (h0 : 0 ≤ a0) (hf : w_X7_tenthsOf a0 x1 h K) : CT G M_X7_tenthsOf rm_X7_tenthsOf 0 0 [] [vr 7 a0 0, vl x1] h K := by
  unfold w_X7_tenthsOf at hf
  refine CT.of (ls0 := [(0, vr 7 a0 0), (1, vl x1)]) (plainFor_of_name (by decide +kernel)) (by decide +kernel) (Nat.le_of_ble_eq_true rfl) rfl rfl ?_
  refine p_aload_n dX7_tenthsOf_0 rfl 0 rfl ?_
  refine p_get (c := 7) (vi (h a0 7)) dX7_tenthsOf_1 7 tb_363 (by decide) (by decide) (Or.inl rfl) h0 rfl rfl ?_
  refine p_iconst dX7_tenthsOf_4 (by decide) ?_
  refine p_icmp_lt (tgt := 37) (q := h a0 7 < 1) dX7_tenthsOf_5 (by decide) Iff.rfl (fun hc => ?_) (fun hc => ?_)
  · replace hf := Eq.mp (if_pos hc) hf
    refine p_sub (ls' := []) [] rfl ?_
    exact t_X7_tenthsOf_37 h0   _ hf
  · replace hf := Eq.mp (if_neg hc) hf
    refine p_lload_n dX7_tenthsOf_8 rfl 1 rfl ?_
    refine p_aload_n dX7_tenthsOf_9 rfl 0 rfl ?_
    refine p_lay (c := 7) (tq := 100) (n := 40) dX7_tenthsOf_10 6 10 tb_362 (by decide) (by decide) h0 (by decide) (by decide) (fun _ => rfl) (vr 100 (a0 + 10) 40) rfl ?_
    refine p_iconst dX7_tenthsOf_13 (by decide) ?_
    obtain ⟨c1, hf⟩ := hf
    refine p_iald dX7_tenthsOf_14 (by omega) c1 ?_
    refine p_i2l dX7_tenthsOf_15 ?_
    refine p_lcmp (z := (if x1 < h (a0 + 10) 0 then (-1) else if x1 = h (a0 + 10) 0 then 0 else 1)) dX7_tenthsOf_16 rfl ?_
    refine p_if_lt (tgt := 37) (q := x1 < h (a0 + 10) 0) dX7_tenthsOf_17 (by decide) (lc_lt x1 (h (a0 + 10) 0)) (fun hc => ?_) (fun hc => ?_)
    · replace hf := Eq.mp (if_pos hc) hf
      refine p_sub (ls' := []) [] rfl ?_
      exact t_X7_tenthsOf_37 h0   _ hf
    · replace hf := Eq.mp (if_neg hc) hf
      refine p_lload_n dX7_tenthsOf_20 rfl 1 rfl ?_
      refine p_aload_n dX7_tenthsOf_21 rfl 0 rfl ?_
      refine p_lay (c := 7) (tq := 100) (n := 40) dX7_tenthsOf_22 6 10 tb_362 (by decide) (by decide) h0 (by decide) (by decide) (fun _ => rfl) (vr 100 (a0 + 10) 40) rfl ?_
      refine p_aload_n dX7_tenthsOf_25 rfl 0 rfl ?_
      refine p_get (c := 7) (vi (h a0 7)) dX7_tenthsOf_26 7 tb_363 (by decide) (by decide) (Or.inl rfl) h0 rfl rfl ?_
      refine p_iconst dX7_tenthsOf_29 (by decide) ?_
      refine p_isub dX7_tenthsOf_30 ?_
      obtain ⟨c2, hf⟩ := hf
      refine p_iald dX7_tenthsOf_31 (by omega) c2 ?_
      refine p_i2l dX7_tenthsOf_32 ?_
      refine p_lcmp (z := (if x1 < h (a0 + 10) (w32 ((h a0 7) - 1)) then (-1) else if x1 = h (a0 + 10) (w32 ((h a0 7) - 1)) then 0 else 1)) dX7_tenthsOf_33 rfl ?_
      refine p_if_le (tgt := 39) (q := x1 ≤ h (a0 + 10) (w32 ((h a0 7) - 1))) dX7_tenthsOf_34 (by decide) (lc_le x1 (h (a0 + 10) (w32 ((h a0 7) - 1)))) (fun hc => ?_) (fun hc => ?_)
      · replace hf := Eq.mp (if_pos hc) hf
        refine p_iconst dX7_tenthsOf_39 (by decide) ?_
        refine p_istore_n (ls' := [(3, vi 0), (0, vr 7 a0 0), (1, vl x1)]) dX7_tenthsOf_40 rfl (by decide) rfl ?_
        refine p_sub (ls' := [(0, vr 7 a0 0), (1, vl x1), (3, vi 0)]) [1, 2, 0] rfl ?_
        refine t_X7_tenthsOf_41 h0 ?_ NF _ _ _ hf
        · intro u6 u7 h5 hf
          exact t_X7_tenthsOf_71 h0  _ _ _ hf
      · replace hf := Eq.mp (if_neg hc) hf
        refine p_sub (ls' := []) [] rfl ?_
        exact t_X7_tenthsOf_37 h0   _ hf
theorem ok_X7_tenthsOf : mOK M_X7_tenthsOf 1 := ⟨tb_642, tb_10, by decide +kernel⟩
abbrev M_X8_add : MD := (yX8_add, cX8_add, 3, none)
abbrev rm_X8_add : Room := { frames := 0, cells := 0, slots := 0, locals := 0 }
def w_X8_add_42 (K : Int → Hh → Prop) (B : Int → Int → Hh → Prop) (X48 : Hh → Prop) (a0 : Int) (v1 v2 : Int) (h : Hh) : Prop := vb (w32 (v2 + (-8))) fun z1 => B v1 z1 h
set_option maxRecDepth 100000 in
set_option maxHeartbeats 4000000 in
theorem t_X8_add_42 {G : Gx} {n0 : Int} {K : Int → Hh → Prop} {B : Int → Int → Hh → Prop} {X48 : Hh → Prop} {a0 : Int} (h0 : 0 ≤ a0) (hB : ∀ (v1 v2 : Int) (h : Hh), B v1 v2 h → PW G M_X8_add rm_X8_add 0 0 [] n0 K 3 [(0, vr 8 a0 0), (1, vi v1), (2, vi v2)] [] [] 0 0 h) (hX48 : ∀ (h : Hh), X48  h → PW G M_X8_add rm_X8_add 0 0 [] n0 K 48 [] [] [] 0 0 h)  (v1 v2 : Int) (h : Hh) (hf : w_X8_add_42 K B X48 a0 v1 v2 h) : PW G M_X8_add rm_X8_add 0 0 [] n0 K 42 [(0, vr 8 a0 0), (1, vi v1), (2, vi v2)] [] [] 0 0 h := by
  unfold w_X8_add_42 at hf
  refine p_iinc (ls' := [(2, vi (w32 (v2 + (-8)))), (0, vr 8 a0 0), (1, vi v1)]) dX8_add_42 2 rfl (by decide) rfl ?_
  replace hf := vb_e hf
  generalize w32 (v2 + (-8)) = z1 at hf ⊢
  refine p_goto (tgt := 3) dX8_add_45 (by decide) ?_
  refine p_sub (ls' := [(0, vr 8 a0 0), (1, vi v1), (2, vi z1)]) [1, 2, 0] rfl ?_
  exact hB _ _ _ hf
def w_X8_add_3 (K : Int → Hh → Prop) (X48 : Hh → Prop) (a0 : Int) : Nat → Int → Int → Hh → Prop
  | 0, _, _, _ => False
  | n + 1, v1, v2, h => if v2 < 0 then (X48  h) else (if h a0 1 ≥ 120 then (w_X8_add_42 K (w_X8_add_3 K X48 a0 n) X48 a0 v1 v2 h) else (((0 : Int) ≤ h a0 1 ∧ h a0 1 < 120) ∧ (hb (up h (a0 + 1) (h a0 1) ((i32 (((i32 v1).toUInt32 >>> ((i32 v2).toUInt32 &&& Int32.toUInt32 31)).toInt32.toInt)).toInt8.toInt32.toInt)) fun h3 => hb (up h3 a0 1 (w32 ((h3 a0 1) + 1))) fun h4 => w_X8_add_42 K (w_X8_add_3 K X48 a0 n) X48 a0 v1 v2 h4)))
set_option maxRecDepth 100000 in
set_option maxHeartbeats 4000000 in
theorem t_X8_add_3 {G : Gx} {n0 : Int} {K : Int → Hh → Prop} {X48 : Hh → Prop} {a0 : Int} (h0 : 0 ≤ a0) (hX48 : ∀ (h : Hh), X48  h → PW G M_X8_add rm_X8_add 0 0 [] n0 K 48 [] [] [] 0 0 h) : ∀ (n : Nat) (v1 v2 : Int) (h : Hh), w_X8_add_3 K X48 a0 n v1 v2 h → PW G M_X8_add rm_X8_add 0 0 [] n0 K 3 [(0, vr 8 a0 0), (1, vi v1), (2, vi v2)] [] [] 0 0 h := by
  intro n
  induction n with
  | zero =>
    intro v1 v2 h hf
    rw [w_X8_add_3] at hf
    exact hf.elim
  | succ n ih =>
    intro v1 v2 h hf
    rw [w_X8_add_3] at hf
    refine p_iload_n dX8_add_3 rfl 2 rfl ?_
    refine p_if_lt (tgt := 48) (q := v2 < 0) dX8_add_4 (by decide) Iff.rfl (fun hc => ?_) (fun hc => ?_)
    · replace hf := Eq.mp (if_pos hc) hf
      refine p_sub (ls' := []) [] rfl ?_
      exact hX48  _ hf
    · replace hf := Eq.mp (if_neg hc) hf
      refine p_aload_n dX8_add_7 rfl 0 rfl ?_
      refine p_get (c := 8) (vi (h a0 1)) dX8_add_8 1 tb_32 (by decide) (by decide) (Or.inl rfl) h0 rfl rfl ?_
      refine p_aload_n dX8_add_11 rfl 0 rfl ?_
      refine p_lay (c := 8) (tq := 102) (n := 120) dX8_add_12 0 1 tb_30 (by decide) (by decide) h0 (by decide) (by decide) (fun _ => rfl) (vr 102 (a0 + 1) 120) rfl ?_
      refine p_alen dX8_add_15 (by decide) (by omega) ?_
      refine p_icmp_ge (tgt := 42) (q := h a0 1 ≥ 120) dX8_add_16 (by decide) Iff.rfl (fun hc => ?_) (fun hc => ?_)
      · replace hf := Eq.mp (if_pos hc) hf
        exact t_X8_add_42 h0 ih hX48 _ _ _ hf
      · replace hf := Eq.mp (if_neg hc) hf
        refine p_aload_n dX8_add_19 rfl 0 rfl ?_
        refine p_lay (c := 8) (tq := 102) (n := 120) dX8_add_20 0 1 tb_30 (by decide) (by decide) h0 (by decide) (by decide) (fun _ => rfl) (vr 102 (a0 + 1) 120) rfl ?_
        refine p_aload_n dX8_add_23 rfl 0 rfl ?_
        refine p_get (c := 8) (vi (h a0 1)) dX8_add_24 1 tb_32 (by decide) (by decide) (Or.inl rfl) h0 rfl rfl ?_
        refine p_iload_n dX8_add_27 rfl 1 rfl ?_
        refine p_iload_n dX8_add_28 rfl 2 rfl ?_
        refine p_iushr dX8_add_29 ?_
        refine p_i2b dX8_add_30 ?_
        obtain ⟨c2, hf⟩ := hf
        refine p_bast dX8_add_31 (by omega) c2 (byte_r _) (byte_t _) ?_
        replace hf := hb_e hf
        generalize up h (a0 + 1) (h a0 1) ((i32 (((i32 v1).toUInt32 >>> ((i32 v2).toUInt32 &&& Int32.toUInt32 31)).toInt32.toInt)).toInt8.toInt32.toInt) = h3 at hf ⊢
        refine p_aload_n dX8_add_32 rfl 0 rfl ?_
        refine p_dup dX8_add_33 (fun _ q => by cases q) ?_
        refine p_get (c := 8) (vi (h3 a0 1)) dX8_add_34 1 tb_32 (by decide) (by decide) (Or.inl rfl) h0 rfl rfl ?_
        refine p_iconst dX8_add_37 (by decide) ?_
        refine p_iadd dX8_add_38 ?_
        refine p_puti (c := 8) dX8_add_39 1 tb_32 (by decide) (by decide) (Or.inl rfl) h0 rfl rfl (fun _ => by decide) (up h3 a0 1 (w32 ((h3 a0 1) + 1))) rfl ?_
        replace hf := hb_e hf
        generalize up h3 a0 1 (w32 ((h3 a0 1) + 1)) = h4 at hf ⊢
        exact t_X8_add_42 h0 ih hX48 _ _ _ hf
def w_X8_add (a0 x1 : Int) (h : Hh) (K : Int → Hh → Prop) : Prop := w_X8_add_3 K (fun h5 => K 0 h5) a0 NF x1 24 h
set_option maxRecDepth 100000 in
set_option maxHeartbeats 4000000 in
theorem t_X8_add {G : Gx} (a0 x1 : Int) (h : Hh) (K : Int → Hh → Prop) (h0 : 0 ≤ a0) (hf : w_X8_add a0 x1 h K) : CT G M_X8_add rm_X8_add 0 0 [] [vr 8 a0 0, vi x1] h K := by
  unfold w_X8_add at hf
  refine CT.of (ls0 := [(0, vr 8 a0 0), (1, vi x1)]) (plainFor_of_name (by decide +kernel)) (by decide +kernel) (Nat.le_of_ble_eq_true rfl) rfl rfl ?_
  refine p_bipush dX8_add_0 (by decide) (by decide) ?_
  refine p_istore_n (ls' := [(2, vi 24), (0, vr 8 a0 0), (1, vi x1)]) dX8_add_2 rfl (by decide) rfl ?_
  refine p_sub (ls' := [(0, vr 8 a0 0), (1, vi x1), (2, vi 24)]) [1, 2, 0] rfl ?_
  refine t_X8_add_3 h0 ?_ NF _ _ _ hf
  · intro h5 hf
    exact p_vret dX8_add_48 rfl (by decide) (by decide) (fun _ q => absurd q List.not_mem_nil) hf
theorem ok_X8_add : mOK M_X8_add 1 := ⟨tb_286, tb_2, by decide +kernel⟩
abbrev M_X9_along : MD := (yX9_along, cX9_along, 5, none)
abbrev rm_X9_along : Room := { frames := 3, cells := 0, slots := 0, locals := 75 }
def w_X9_along_19 (K : Int → Hh → Prop) (X138 : Hh → Prop) (a0 : Int) : Nat → Int → Int → Int → Int → Int → Hh → Prop
  | 0, _, _, _, _, _, _ => False
  | n + 1, v1, v2, v2n, v3, v4, h => if v4 > v3 then (X138  h) else (0 ≤ v1 ∧ (if v4 ≥ h v1 3 then (X138  h) else (0 ≤ v2 ∧ (if w32 (v4 + 1) ≥ v2n then (X138  h) else (((0 : Int) ≤ v4 ∧ v4 < 3) ∧ (w_X4_lies (v1 + 6) (w64 ((h (v1 + 2) v4) * (h a0 3))) h (fun r7 h8 => hb (up h8 a0 0 r7) fun h9 => ((0 : Int) ≤ w32 (v4 + 1) ∧ w32 (v4 + 1) < v2n) ∧ (w_X4_lies (v1 + 6) (w64 ((h9 (v1 + 3) v4) * (h9 v2 (w32 (v4 + 1))))) h9 (fun r11 h12 => hb (up h12 a0 1 r11) fun h13 => w_X0_meets v1 v4 (h13 a0 0) (h13 a0 1) h13 (fun r14 h15 => hb (up h15 a0 2 r14) fun h16 => w_X4_placeReadAt (v1 + 6) (h16 a0 2) h16 (fun r17 h18 => w_X0_sumAt v1 v4 r17 h18 (fun r19 h20 => hb (up h20 a0 3 r19) fun h21 => vb (w32 (v4 + 1)) fun z22 => w_X9_along_19 K X138 a0 n v1 v2 v2n v3 z22 h21))))))))))))
set_option maxRecDepth 100000 in
set_option maxHeartbeats 4000000 in
theorem t_X9_along_19 {G : Gx} {n0 : Int} {K : Int → Hh → Prop} {X138 : Hh → Prop} {a0 : Int} (h0 : 0 ≤ a0) (hX138 : ∀ (h : Hh), X138  h → PW G M_X9_along rm_X9_along 0 0 [] n0 K 138 [] [] [] 0 0 h) : ∀ (n : Nat) (v1 v2 v2n v3 v4 : Int) (h : Hh), w_X9_along_19 K X138 a0 n v1 v2 v2n v3 v4 h → PW G M_X9_along rm_X9_along 0 0 [] n0 K 19 [(0, vr 9 a0 0), (1, vr 0 v1 0), (2, vr 101 v2 v2n), (3, vi v3), (4, vi v4)] [] [] 0 0 h := by
  intro n
  induction n with
  | zero =>
    intro v1 v2 v2n v3 v4 h hf
    rw [w_X9_along_19] at hf
    exact hf.elim
  | succ n ih =>
    intro v1 v2 v2n v3 v4 h hf
    rw [w_X9_along_19] at hf
    refine p_iload dX9_along_19 4 rfl ?_
    refine p_iload_n dX9_along_21 rfl 3 rfl ?_
    refine p_icmp_gt (tgt := 138) (q := v4 > v3) dX9_along_22 (by decide) Iff.rfl (fun hc => ?_) (fun hc => ?_)
    · replace hf := Eq.mp (if_pos hc) hf
      refine p_sub (ls' := []) [] rfl ?_
      exact hX138  _ hf
    · replace hf := Eq.mp (if_neg hc) hf
      refine p_iload dX9_along_25 4 rfl ?_
      refine p_aload_n dX9_along_27 rfl 1 rfl ?_
      obtain ⟨c4, hf⟩ := hf
      refine p_getN (c := 0) (vi (h v1 3)) dX9_along_28 3 tb_499 (by decide) (by decide) (Or.inl rfl) c4 rfl rfl ?_
      refine p_icmp_ge (tgt := 138) (q := v4 ≥ h v1 3) dX9_along_31 (by decide) Iff.rfl (fun hc => ?_) (fun hc => ?_)
      · replace hf := Eq.mp (if_pos hc) hf
        refine p_sub (ls' := []) [] rfl ?_
        exact hX138  _ hf
      · replace hf := Eq.mp (if_neg hc) hf
        refine p_iload dX9_along_34 4 rfl ?_
        refine p_iconst dX9_along_36 (by decide) ?_
        refine p_iadd dX9_along_37 ?_
        refine p_aload_n dX9_along_38 rfl 2 rfl ?_
        obtain ⟨c5, hf⟩ := hf
        refine p_alen dX9_along_39 (by decide) c5 ?_
        refine p_icmp_ge (tgt := 138) (q := w32 (v4 + 1) ≥ v2n) dX9_along_40 (by decide) Iff.rfl (fun hc => ?_) (fun hc => ?_)
        · replace hf := Eq.mp (if_pos hc) hf
          refine p_sub (ls' := []) [] rfl ?_
          exact hX138  _ hf
        · replace hf := Eq.mp (if_neg hc) hf
          refine p_aload_n dX9_along_43 rfl 0 rfl ?_
          refine p_aload_n dX9_along_44 rfl 1 rfl ?_
          refine p_layN (c := 0) (tq := 4) (n := 0) dX9_along_45 10 6 tb_514 (by decide) (by decide) c4 (by decide) (by decide) (fun _ => rfl) (vr 4 (v1 + 6) 0) rfl ?_
          refine p_aload_n dX9_along_48 rfl 1 rfl ?_
          refine p_layN (c := 0) (tq := 100) (n := 3) dX9_along_49 6 2 tb_506 (by decide) (by decide) c4 (by decide) (by decide) (fun _ => rfl) (vr 100 (v1 + 2) 3) rfl ?_
          refine p_iload dX9_along_52 4 rfl ?_
          obtain ⟨c6, hf⟩ := hf
          refine p_iald dX9_along_54 (by omega) c6 ?_
          refine p_i2l dX9_along_55 ?_
          refine p_aload_n dX9_along_56 rfl 0 rfl ?_
          refine p_get (c := 9) (vl (h a0 3)) dX9_along_57 3 tb_158 (by decide) (by decide) (Or.inl rfl) h0 rfl rfl ?_
          refine p_lmul dX9_along_60 ?_
          refine p_callVNl dX9_along_61 M_X4_lies rfl [vl (w64 ((h (v1 + 2) v4) * (h a0 3)))] (t_X4_lies _ _ _ _ (by omega) hf) ok_X4_lies rfl (c := 4) (by decide) (by omega) rfl tb_610 ⟨tb_612, ts_36⟩ rfl (Nat.le_of_ble_eq_true rfl) ⟨rfl, rfl⟩ ⟨by decide, by decide⟩ ⟨by decide, by decide⟩ (fun r7 h8 hf => ?_)
          refine p_putl (c := 9) dX9_along_64 0 tb_152 (by decide) (by decide) (Or.inl rfl) h0 rfl rfl (fun _ => by decide) (up h8 a0 0 r7) rfl ?_
          replace hf := hb_e hf
          generalize up h8 a0 0 r7 = h9 at hf ⊢
          refine p_aload_n dX9_along_67 rfl 0 rfl ?_
          refine p_aload_n dX9_along_68 rfl 1 rfl ?_
          refine p_layN (c := 0) (tq := 4) (n := 0) dX9_along_69 10 6 tb_514 (by decide) (by decide) c4 (by decide) (by decide) (fun _ => rfl) (vr 4 (v1 + 6) 0) rfl ?_
          refine p_aload_n dX9_along_72 rfl 1 rfl ?_
          refine p_layN (c := 0) (tq := 100) (n := 3) dX9_along_73 7 3 tb_509 (by decide) (by decide) c4 (by decide) (by decide) (fun _ => rfl) (vr 100 (v1 + 3) 3) rfl ?_
          refine p_iload dX9_along_76 4 rfl ?_
          refine p_iald dX9_along_78 (by omega) c6 ?_
          refine p_i2l dX9_along_79 ?_
          refine p_aload_n dX9_along_80 rfl 2 rfl ?_
          refine p_iload dX9_along_81 4 rfl ?_
          refine p_iconst dX9_along_83 (by decide) ?_
          refine p_iadd dX9_along_84 ?_
          obtain ⟨c10, hf⟩ := hf
          refine p_lald dX9_along_85 c5 c10 ?_
          refine p_lmul dX9_along_86 ?_
          refine p_callVNl dX9_along_87 M_X4_lies rfl [vl (w64 ((h9 (v1 + 3) v4) * (h9 v2 (w32 (v4 + 1)))))] (t_X4_lies _ _ _ _ (by omega) hf) ok_X4_lies rfl (c := 4) (by decide) (by omega) rfl tb_610 ⟨tb_612, ts_36⟩ rfl (Nat.le_of_ble_eq_true rfl) ⟨rfl, rfl⟩ ⟨by decide, by decide⟩ ⟨by decide, by decide⟩ (fun r11 h12 hf => ?_)
          refine p_putl (c := 9) dX9_along_90 1 tb_154 (by decide) (by decide) (Or.inl rfl) h0 rfl rfl (fun _ => by decide) (up h12 a0 1 r11) rfl ?_
          replace hf := hb_e hf
          generalize up h12 a0 1 r11 = h13 at hf ⊢
          refine p_aload_n dX9_along_93 rfl 0 rfl ?_
          refine p_aload_n dX9_along_94 rfl 1 rfl ?_
          refine p_iload dX9_along_95 4 rfl ?_
          refine p_aload_n dX9_along_97 rfl 0 rfl ?_
          refine p_get (c := 9) (vl (h13 a0 0)) dX9_along_98 0 tb_152 (by decide) (by decide) (Or.inl rfl) h0 rfl rfl ?_
          refine p_aload_n dX9_along_101 rfl 0 rfl ?_
          refine p_get (c := 9) (vl (h13 a0 1)) dX9_along_102 1 tb_154 (by decide) (by decide) (Or.inl rfl) h0 rfl rfl ?_
          refine p_callVNl dX9_along_105 M_X0_meets rfl [vi v4, vl (h13 a0 0), vl (h13 a0 1)] (t_X0_meets _ _ _ _ _ _ c4 hf) ok_X0_meets rfl (c := 0) (by decide) c4 rfl tb_615 ⟨tb_617, ts_37⟩ rfl (Nat.le_of_ble_eq_true rfl) ⟨rfl, rfl⟩ ⟨by decide, by decide⟩ ⟨by decide, by decide⟩ (fun r14 h15 hf => ?_)
          refine p_putl (c := 9) dX9_along_108 2 tb_156 (by decide) (by decide) (Or.inl rfl) h0 rfl rfl (fun _ => by decide) (up h15 a0 2 r14) rfl ?_
          replace hf := hb_e hf
          generalize up h15 a0 2 r14 = h16 at hf ⊢
          refine p_aload_n dX9_along_111 rfl 0 rfl ?_
          refine p_aload_n dX9_along_112 rfl 1 rfl ?_
          refine p_iload dX9_along_113 4 rfl ?_
          refine p_aload_n dX9_along_115 rfl 1 rfl ?_
          refine p_layN (c := 0) (tq := 4) (n := 0) dX9_along_116 10 6 tb_514 (by decide) (by decide) c4 (by decide) (by decide) (fun _ => rfl) (vr 4 (v1 + 6) 0) rfl ?_
          refine p_aload_n dX9_along_119 rfl 0 rfl ?_
          refine p_get (c := 9) (vl (h16 a0 2)) dX9_along_120 2 tb_156 (by decide) (by decide) (Or.inl rfl) h0 rfl rfl ?_
          refine p_callVNl dX9_along_123 M_X4_placeReadAt rfl [vl (h16 a0 2)] (t_X4_placeReadAt _ _ _ _ (by omega) hf) ok_X4_placeReadAt rfl (c := 4) (by decide) (by omega) rfl tb_624 ⟨tb_626, ts_39⟩ rfl (Nat.le_of_ble_eq_true rfl) ⟨rfl, rfl⟩ ⟨by decide, by decide⟩ ⟨by decide, by decide⟩ (fun r17 h18 hf => ?_)
          refine p_callVNl dX9_along_126 M_X0_sumAt rfl [vi v4, vl r17] (t_X0_sumAt _ _ _ _ _ c4 hf) ok_X0_sumAt rfl (c := 0) (by decide) c4 rfl tb_635 ⟨tb_637, ts_40⟩ rfl (Nat.le_of_ble_eq_true rfl) ⟨rfl, rfl⟩ ⟨by decide, by decide⟩ ⟨by decide, by decide⟩ (fun r19 h20 hf => ?_)
          refine p_putl (c := 9) dX9_along_129 3 tb_158 (by decide) (by decide) (Or.inl rfl) h0 rfl rfl (fun _ => by decide) (up h20 a0 3 r19) rfl ?_
          replace hf := hb_e hf
          generalize up h20 a0 3 r19 = h21 at hf ⊢
          refine p_iinc (ls' := [(4, vi (w32 (v4 + 1))), (0, vr 9 a0 0), (1, vr 0 v1 0), (2, vr 101 v2 v2n), (3, vi v3)]) dX9_along_132 4 rfl (by decide) rfl ?_
          replace hf := vb_e hf
          generalize w32 (v4 + 1) = z22 at hf ⊢
          refine p_goto (tgt := 19) dX9_along_135 (by decide) ?_
          refine p_sub (ls' := [(0, vr 9 a0 0), (1, vr 0 v1 0), (2, vr 101 v2 v2n), (3, vi v3), (4, vi z22)]) [1, 2, 3, 4, 0] rfl ?_
          exact ih _ _ _ _ _ _ hf
def w_X9_along_138 (K : Int → Hh → Prop) (a0 : Int) (h : Hh) : Prop := K 0 h
set_option maxRecDepth 100000 in
set_option maxHeartbeats 4000000 in
theorem t_X9_along_138 {G : Gx} {n0 : Int} {K : Int → Hh → Prop} {a0 : Int} (h0 : 0 ≤ a0)  (h : Hh) (hf : w_X9_along_138 K  a0  h) : PW G M_X9_along rm_X9_along 0 0 [] n0 K 138 [] [] [] 0 0 h := by
  unfold w_X9_along_138 at hf
  exact p_vret dX9_along_138 rfl (by decide) (by decide) (fun _ q => absurd q List.not_mem_nil) hf
def w_X9_along_13 (K : Int → Hh → Prop) (a0 : Int) (v1 v2 v2n v3 s0 s1 : Int) (h : Hh) : Prop := 0 ≤ s1 ∧ (hb (up h s1 3 s0) fun h3 => w_X9_along_19 K (fun h23 => w_X9_along_138 K  a0  h23) a0 NF v1 v2 v2n v3 0 h3)
set_option maxRecDepth 100000 in
set_option maxHeartbeats 4000000 in
theorem t_X9_along_13 {G : Gx} {n0 : Int} {K : Int → Hh → Prop} {a0 : Int} (h0 : 0 ≤ a0)  (v1 v2 v2n v3 s0 s1 : Int) (h : Hh) (hf : w_X9_along_13 K  a0 v1 v2 v2n v3 s0 s1 h) : PW G M_X9_along rm_X9_along 0 0 [] n0 K 13 [(0, vr 9 a0 0), (1, vr 0 v1 0), (2, vr 101 v2 v2n), (3, vi v3)] [vl s0, vr 9 s1 0] [] 0 0 h := by
  unfold w_X9_along_13 at hf
  obtain ⟨c2, hf⟩ := hf
  refine p_putl (c := 9) dX9_along_13 3 tb_158 (by decide) (by decide) (Or.inl rfl) c2 rfl rfl (fun _ => by decide) (up h s1 3 s0) rfl ?_
  replace hf := hb_e hf
  generalize up h s1 3 s0 = h3 at hf ⊢
  refine p_iconst dX9_along_16 (by decide) ?_
  refine p_istore (ls' := [(4, vi 0), (0, vr 9 a0 0), (1, vr 0 v1 0), (2, vr 101 v2 v2n), (3, vi v3)]) dX9_along_17 (by decide) rfl ?_
  refine p_sub (ls' := [(0, vr 9 a0 0), (1, vr 0 v1 0), (2, vr 101 v2 v2n), (3, vi v3), (4, vi 0)]) [1, 2, 3, 4, 0] rfl ?_
  refine t_X9_along_19 h0 ?_ NF _ _ _ _ _ _ hf
  · intro h23 hf
    exact t_X9_along_138 h0   _ hf
def w_X9_along (a0 x1 x2 n2 x3 : Int) (h : Hh) (K : Int → Hh → Prop) : Prop := 0 ≤ x2 ∧ (if n2 ≤ 0 then (w_X9_along_13 K  a0 x1 x2 n2 x3 0 a0 h) else (((0 : Int) ≤ 0 ∧ 0 < n2) ∧ (w_X9_along_13 K  a0 x1 x2 n2 x3 (h x2 0) a0 h)))
set_option maxRecDepth 100000 in
set_option maxHeartbeats 4000000 in
theorem t_X9_along {G : Gx} (a0 x1 x2 n2 x3 : Int) (h : Hh) (K : Int → Hh → Prop) (h0 : 0 ≤ a0) (hf : w_X9_along a0 x1 x2 n2 x3 h K) : CT G M_X9_along rm_X9_along 0 0 [] [vr 9 a0 0, vr 0 x1 0, vr 101 x2 n2, vi x3] h K := by
  unfold w_X9_along at hf
  refine CT.of (ls0 := [(0, vr 9 a0 0), (1, vr 0 x1 0), (2, vr 101 x2 n2), (3, vi x3)]) (plainFor_of_name (by decide +kernel)) (by decide +kernel) (Nat.le_of_ble_eq_true rfl) rfl rfl ?_
  refine p_aload_n dX9_along_0 rfl 0 rfl ?_
  refine p_aload_n dX9_along_1 rfl 2 rfl ?_
  obtain ⟨c1, hf⟩ := hf
  refine p_alen dX9_along_2 (by decide) c1 ?_
  refine p_if_le (tgt := 12) (q := n2 ≤ 0) dX9_along_3 (by decide) Iff.rfl (fun hc => ?_) (fun hc => ?_)
  · replace hf := Eq.mp (if_pos hc) hf
    refine p_lconst (z := 0) dX9_along_12 rfl ?_
    exact t_X9_along_13 h0  _ _ _ _ _ _ _ hf
  · replace hf := Eq.mp (if_neg hc) hf
    refine p_aload_n dX9_along_6 rfl 2 rfl ?_
    refine p_iconst dX9_along_7 (by decide) ?_
    obtain ⟨c24, hf⟩ := hf
    refine p_lald dX9_along_8 c1 c24 ?_
    refine p_goto (tgt := 13) dX9_along_9 (by decide) ?_
    exact t_X9_along_13 h0  _ _ _ _ _ _ _ hf
theorem ok_X9_along : mOK M_X9_along 3 := ⟨tb_609, tb_6, by decide +kernel⟩
