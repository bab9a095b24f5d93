abbrev M_X6_isFull : MD := (yX6_isFull, cX6_isFull, 1, some .boolean)
abbrev rm_X6_isFull : Room := { frames := 0, cells := 0, slots := 0, locals := 0 }
def w_X6_isFull_14 (K : Int → Hh → Prop) (a0 : Int) (s0 : Int) (h : Hh) : Prop := (s0 = 0 ∨ s0 = 1) ∧ (K s0 h)
set_option maxRecDepth 100000 in
set_option maxHeartbeats 4000000 in
theorem t_X6_isFull_14 {G : Gx} {n0 : Int} {K : Int → Hh → Prop} {a0 : Int} (h0 : 0 ≤ a0)  (s0 : Int) (h : Hh) (hf : w_X6_isFull_14 K  a0 s0 h) : PW G M_X6_isFull rm_X6_isFull 0 0 [] n0 K 14 [] [vi s0] [] 0 0 h := by
  unfold w_X6_isFull_14 at hf
  obtain ⟨c1, hf⟩ := hf
  exact p_zret dX6_isFull_14 rfl (by decide) (by decide) (fun _ h => absurd h List.not_mem_nil) c1 hf
def w_X6_isFull (a0 : Int) (h : Hh) (K : Int → Hh → Prop) : Prop := if h a0 7 < 60 then (w_X6_isFull_14 K  a0 0 h) else (w_X6_isFull_14 K  a0 1 h)
set_option maxRecDepth 100000 in
set_option maxHeartbeats 4000000 in
theorem t_X6_isFull {G : Gx} (a0 : Int) (h : Hh) (K : Int → Hh → Prop) (h0 : 0 ≤ a0) (hf : w_X6_isFull a0 h K) : CT G M_X6_isFull rm_X6_isFull 0 0 [] [vr 6 a0 0] h K := by
  unfold w_X6_isFull at hf
  refine CT.of (ls0 := [(0, vr 6 a0 0)]) (plainFor_of_name (by decide +kernel)) (by decide +kernel) (Nat.le_of_ble_eq_true rfl) rfl rfl ?_
  refine p_aload_n dX6_isFull_0 rfl 0 rfl ?_
  refine p_get (c := 6) (vi (h a0 7)) dX6_isFull_1 7 tb_123 (by decide) (by decide) (Or.inl rfl) h0 rfl rfl ?_
  refine p_bipush dX6_isFull_4 (by decide) (by decide) ?_
  refine p_icmp_lt (tgt := 13) (q := h a0 7 < 60) dX6_isFull_6 (by decide) Iff.rfl (fun hc => ?_) (fun hc => ?_)
  · replace hf := Eq.mp (if_pos hc) hf
    refine p_iconst dX6_isFull_13 (by decide) ?_
    refine p_sub (ls' := []) [] rfl ?_
    exact t_X6_isFull_14 h0  _ _ hf
  · replace hf := Eq.mp (if_neg hc) hf
    refine p_iconst dX6_isFull_9 (by decide) ?_
    refine p_goto (tgt := 14) dX6_isFull_10 (by decide) ?_
    refine p_sub (ls' := []) [] rfl ?_
    exact t_X6_isFull_14 h0  _ _ hf
theorem ok_X6_isFull : mOK M_X6_isFull 0 := ⟨tb_793, tb_5, by decide +kernel⟩
abbrev M_X6_has : MD := (yX6_has, cX6_has, 2, some .boolean)
abbrev rm_X6_has : Room := { frames := 0, cells := 0, slots := 0, locals := 0 }
def w_X6_has_17 (K : Int → Hh → Prop) (a0 : Int) (s0 : Int) (h : Hh) : Prop := (s0 = 0 ∨ s0 = 1) ∧ (K s0 h)
set_option maxRecDepth 100000 in
set_option maxHeartbeats 4000000 in
theorem t_X6_has_17 {G : Gx} {n0 : Int} {K : Int → Hh → Prop} {a0 : Int} (h0 : 0 ≤ a0)  (s0 : Int) (h : Hh) (hf : w_X6_has_17 K  a0 s0 h) : PW G M_X6_has rm_X6_has 0 0 [] n0 K 17 [] [vi s0] [] 0 0 h := by
  unfold w_X6_has_17 at hf
  obtain ⟨c1, hf⟩ := hf
  exact p_zret dX6_has_17 rfl (by decide) (by decide) (fun _ h => absurd h List.not_mem_nil) c1 hf
def w_X6_has_16 (K : Int → Hh → Prop) (a0 : Int) (h : Hh) : Prop := w_X6_has_17 K  a0 0 h
set_option maxRecDepth 100000 in
set_option maxHeartbeats 4000000 in
theorem t_X6_has_16 {G : Gx} {n0 : Int} {K : Int → Hh → Prop} {a0 : Int} (h0 : 0 ≤ a0)  (h : Hh) (hf : w_X6_has_16 K  a0  h) : PW G M_X6_has rm_X6_has 0 0 [] n0 K 16 [] [] [] 0 0 h := by
  unfold w_X6_has_16 at hf
  refine p_iconst dX6_has_16 (by decide) ?_
  exact t_X6_has_17 h0  _ _ hf
def w_X6_has (a0 x1 : Int) (h : Hh) (K : Int → Hh → Prop) : Prop := if x1 < 0 then (w_X6_has_16 K  a0  h) else (if x1 ≥ h a0 7 then (w_X6_has_16 K  a0  h) else (w_X6_has_17 K  a0 1 h))
set_option maxRecDepth 100000 in
set_option maxHeartbeats 4000000 in
theorem t_X6_has {G : Gx} (a0 x1 : Int) (h : Hh) (K : Int → Hh → Prop) (h0 : 0 ≤ a0) (hf : w_X6_has a0 x1 h K) : CT G M_X6_has rm_X6_has 0 0 [] [vr 6 a0 0, vi x1] h K := by
  unfold w_X6_has at hf
  refine CT.of (ls0 := [(0, vr 6 a0 0), (1, vi x1)]) (plainFor_of_name (by decide +kernel)) (by decide +kernel) (Nat.le_of_ble_eq_true rfl) rfl rfl ?_
  refine p_iload_n dX6_has_0 rfl 1 rfl ?_
  refine p_if_lt (tgt := 16) (q := x1 < 0) dX6_has_1 (by decide) Iff.rfl (fun hc => ?_) (fun hc => ?_)
  · replace hf := Eq.mp (if_pos hc) hf
    refine p_sub (ls' := []) [] rfl ?_
    exact t_X6_has_16 h0   _ hf
  · replace hf := Eq.mp (if_neg hc) hf
    refine p_iload_n dX6_has_4 rfl 1 rfl ?_
    refine p_aload_n dX6_has_5 rfl 0 rfl ?_
    refine p_get (c := 6) (vi (h a0 7)) dX6_has_6 7 tb_123 (by decide) (by decide) (Or.inl rfl) h0 rfl rfl ?_
    refine p_icmp_ge (tgt := 16) (q := x1 ≥ h a0 7) dX6_has_9 (by decide) Iff.rfl (fun hc => ?_) (fun hc => ?_)
    · replace hf := Eq.mp (if_pos hc) hf
      refine p_sub (ls' := []) [] rfl ?_
      exact t_X6_has_16 h0   _ hf
    · replace hf := Eq.mp (if_neg hc) hf
      refine p_iconst dX6_has_12 (by decide) ?_
      refine p_goto (tgt := 17) dX6_has_13 (by decide) ?_
      refine p_sub (ls' := []) [] rfl ?_
      exact t_X6_has_17 h0  _ _ hf
theorem ok_X6_has : mOK M_X6_has 1 := ⟨tb_806, tb_5, by decide +kernel⟩
abbrev M_X6_forgetDues : MD := (yX6_forgetDues, cX6_forgetDues, 1, none)
abbrev rm_X6_forgetDues : Room := { frames := 0, cells := 0, slots := 0, locals := 0 }
def w_X6_forgetDues (a0 : Int) (h : Hh) (K : Int → Hh → Prop) : Prop := hb (up h a0 8 0) fun h1 => K 0 h1
set_option maxRecDepth 100000 in
set_option maxHeartbeats 4000000 in
theorem t_X6_forgetDues {G : Gx} (a0 : Int) (h : Hh) (K : Int → Hh → Prop) (h0 : 0 ≤ a0) (hf : w_X6_forgetDues a0 h K) : CT G M_X6_forgetDues rm_X6_forgetDues 0 0 [] [vr 6 a0 0] h K := by
  unfold w_X6_forgetDues at hf
  refine CT.of (ls0 := [(0, vr 6 a0 0)]) (plainFor_of_name (by decide +kernel)) (by decide +kernel) (Nat.le_of_ble_eq_true rfl) rfl rfl ?_
  refine p_aload_n dX6_forgetDues_0 rfl 0 rfl ?_
  refine p_iconst dX6_forgetDues_1 (by decide) ?_
  refine p_puti (c := 6) dX6_forgetDues_2 8 tb_125 (by decide) (by decide) (Or.inl rfl) h0 rfl rfl (fun _ => by decide) (up h a0 8 0) rfl ?_
  replace hf := hb_e hf
  generalize up h a0 8 0 = h1 at hf ⊢
  exact p_vret dX6_forgetDues_5 rfl (by decide) (by decide) (fun _ h => absurd h List.not_mem_nil) hf
theorem ok_X6_forgetDues : mOK M_X6_forgetDues 0 := ⟨tb_754, tb_5, by decide +kernel⟩
abbrev M_X6_add : MD := (yX6_add, cX6_add, 6, none)
abbrev rm_X6_add : Room := { frames := 1, cells := 0, slots := 0, locals := 20 }
def w_X6_add (a0 x1 x2 x3 x4 x5 : Int) (h : Hh) (K : Int → Hh → Prop) : Prop := w_X6_isFull a0 h (fun r1 h2 => if r1 = 0 then (((0 : Int) ≤ h2 a0 7 ∧ (h2 a0 7 : Int) < 60) ∧ (hb (up h2 (a0 + 1) (h2 a0 7) x1) fun h4 => ((0 : Int) ≤ h4 a0 7 ∧ (h4 a0 7 : Int) < 60) ∧ (hb (up h4 (a0 + 2) (h4 a0 7) x2) fun h6 => ((0 : Int) ≤ h6 a0 7 ∧ (h6 a0 7 : Int) < 60) ∧ (hb (up h6 (a0 + 3) (h6 a0 7) x3) fun h8 => ((0 : Int) ≤ h8 a0 7 ∧ (h8 a0 7 : Int) < 60) ∧ (hb (up h8 (a0 + 4) (h8 a0 7) x4) fun h10 => ((0 : Int) ≤ h10 a0 7 ∧ (h10 a0 7 : Int) < 60) ∧ (hb (up h10 (a0 + 5) (h10 a0 7) x5) fun h12 => hb (up h12 a0 7 (w32 ((h12 a0 7) + 1))) fun h13 => K 0 h13)))))) else (K 0 h2))
set_option maxRecDepth 100000 in
set_option maxHeartbeats 4000000 in
theorem t_X6_add {G : Gx} (a0 x1 x2 x3 x4 x5 : Int) (h : Hh) (K : Int → Hh → Prop) (h0 : 0 ≤ a0) (hf : w_X6_add a0 x1 x2 x3 x4 x5 h K) : CT G M_X6_add rm_X6_add 0 0 [] [vr 6 a0 0, vi x1, vi x2, vi x3, vi x4, vi x5] h K := by
  unfold w_X6_add at hf
  refine CT.of (ls0 := [(0, vr 6 a0 0), (1, vi x1), (2, vi x2), (3, vi x3), (4, vi x4), (5, vi x5)]) (plainFor_of_name (by decide +kernel)) (by decide +kernel) (Nat.le_of_ble_eq_true rfl) rfl rfl ?_
  refine p_aload_n dX6_add_0 rfl 0 rfl ?_
  refine p_callVi dX6_add_1 M_X6_isFull (Or.inr rfl) [] (t_X6_isFull _ _ _ h0 hf) ok_X6_isFull rfl (c := 6) (by decide) h0 rfl tb_798 ⟨tb_792, ts_57⟩ rfl (Nat.le_of_ble_eq_true rfl) ⟨rfl, rfl⟩ ⟨by decide, by decide⟩ ⟨by decide, by decide⟩ (fun r1 h2 hf => ?_)
  refine p_if_eq (tgt := 8) (q := r1 = 0) dX6_add_4 (by decide) Iff.rfl (fun hc => ?_) (fun hc => ?_)
  · replace hf := Eq.mp (if_pos hc) hf
    refine p_aload_n dX6_add_8 rfl 0 rfl ?_
    refine p_lay (c := 6) (tq := 100) (n := 60) dX6_add_9 0 1 tb_112 (by decide) (by decide) h0 (by decide) (by decide) (fun _ => rfl) (vr 100 (a0 + 1) 60) rfl ?_
    refine p_aload_n dX6_add_12 rfl 0 rfl ?_
    refine p_get (c := 6) (vi (h2 a0 7)) dX6_add_13 7 tb_123 (by decide) (by decide) (Or.inl rfl) h0 rfl rfl ?_
    refine p_iload_n dX6_add_16 rfl 1 rfl ?_
    obtain ⟨c3, hf⟩ := hf
    refine p_iast dX6_add_17 (nnk h0 (by decide)) c3 ?_
    replace hf := hb_e hf
    generalize up h2 (a0 + 1) (h2 a0 7) x1 = h4 at hf ⊢
    refine p_aload_n dX6_add_18 rfl 0 rfl ?_
    refine p_lay (c := 6) (tq := 100) (n := 60) dX6_add_19 1 2 tb_113 (by decide) (by decide) h0 (by decide) (by decide) (fun _ => rfl) (vr 100 (a0 + 2) 60) rfl ?_
    refine p_aload_n dX6_add_22 rfl 0 rfl ?_
    refine p_get (c := 6) (vi (h4 a0 7)) dX6_add_23 7 tb_123 (by decide) (by decide) (Or.inl rfl) h0 rfl rfl ?_
    refine p_iload_n dX6_add_26 rfl 2 rfl ?_
    obtain ⟨c5, hf⟩ := hf
    refine p_iast dX6_add_27 (nnk h0 (by decide)) c5 ?_
    replace hf := hb_e hf
    generalize up h4 (a0 + 2) (h4 a0 7) x2 = h6 at hf ⊢
    refine p_aload_n dX6_add_28 rfl 0 rfl ?_
    refine p_lay (c := 6) (tq := 100) (n := 60) dX6_add_29 2 3 tb_115 (by decide) (by decide) h0 (by decide) (by decide) (fun _ => rfl) (vr 100 (a0 + 3) 60) rfl ?_
    refine p_aload_n dX6_add_32 rfl 0 rfl ?_
    refine p_get (c := 6) (vi (h6 a0 7)) dX6_add_33 7 tb_123 (by decide) (by decide) (Or.inl rfl) h0 rfl rfl ?_
    refine p_iload_n dX6_add_36 rfl 3 rfl ?_
    obtain ⟨c7, hf⟩ := hf
    refine p_iast dX6_add_37 (nnk h0 (by decide)) c7 ?_
    replace hf := hb_e hf
    generalize up h6 (a0 + 3) (h6 a0 7) x3 = h8 at hf ⊢
    refine p_aload_n dX6_add_38 rfl 0 rfl ?_
    refine p_lay (c := 6) (tq := 100) (n := 60) dX6_add_39 3 4 tb_117 (by decide) (by decide) h0 (by decide) (by decide) (fun _ => rfl) (vr 100 (a0 + 4) 60) rfl ?_
    refine p_aload_n dX6_add_42 rfl 0 rfl ?_
    refine p_get (c := 6) (vi (h8 a0 7)) dX6_add_43 7 tb_123 (by decide) (by decide) (Or.inl rfl) h0 rfl rfl ?_
    refine p_iload dX6_add_46 4 rfl ?_
    obtain ⟨c9, hf⟩ := hf
    refine p_iast dX6_add_48 (nnk h0 (by decide)) c9 ?_
    replace hf := hb_e hf
    generalize up h8 (a0 + 4) (h8 a0 7) x4 = h10 at hf ⊢
    refine p_aload_n dX6_add_49 rfl 0 rfl ?_
    refine p_lay (c := 6) (tq := 100) (n := 60) dX6_add_50 4 5 tb_118 (by decide) (by decide) h0 (by decide) (by decide) (fun _ => rfl) (vr 100 (a0 + 5) 60) rfl ?_
    refine p_aload_n dX6_add_53 rfl 0 rfl ?_
    refine p_get (c := 6) (vi (h10 a0 7)) dX6_add_54 7 tb_123 (by decide) (by decide) (Or.inl rfl) h0 rfl rfl ?_
    refine p_iload dX6_add_57 5 rfl ?_
    obtain ⟨c11, hf⟩ := hf
    refine p_iast dX6_add_59 (nnk h0 (by decide)) c11 ?_
    replace hf := hb_e hf
    generalize up h10 (a0 + 5) (h10 a0 7) x5 = h12 at hf ⊢
    refine p_aload_n dX6_add_60 rfl 0 rfl ?_
    refine p_dup dX6_add_61 (fun _ q => by cases q) ?_
    refine p_get (c := 6) (vi (h12 a0 7)) dX6_add_62 7 tb_123 (by decide) (by decide) (Or.inl rfl) h0 rfl rfl ?_
    refine p_iconst dX6_add_65 (by decide) ?_
    refine p_iadd dX6_add_66 ?_
    refine p_puti (c := 6) dX6_add_67 7 tb_123 (by decide) (by decide) (Or.inl rfl) h0 rfl rfl (fun _ => by decide) (up h12 a0 7 (w32 ((h12 a0 7) + 1))) rfl ?_
    replace hf := hb_e hf
    generalize up h12 a0 7 (w32 ((h12 a0 7) + 1)) = h13 at hf ⊢
    exact p_vret dX6_add_70 rfl (by decide) (by decide) (fun _ h => absurd h List.not_mem_nil) hf
  · replace hf := Eq.mp (if_neg hc) hf
    exact p_vret dX6_add_7 rfl (by decide) (by decide) (fun _ h => absurd h List.not_mem_nil) hf
theorem ok_X6_add : mOK M_X6_add 5 := ⟨tb_797, tb_5, by decide +kernel⟩
abbrev M_J9_abs_0f7a4 : MD := (yJ9_abs_0f7a4, cJ9_abs_0f7a4, 1, some .int)
abbrev rm_J9_abs_0f7a4 : Room := { frames := 0, cells := 0, slots := 0, locals := 0 }
def w_J9_abs_0f7a4_10 (K : Int → Hh → Prop) (s0 : Int) (h : Hh) : Prop := K s0 h
set_option maxRecDepth 100000 in
set_option maxHeartbeats 4000000 in
theorem t_J9_abs_0f7a4_10 {G : Gx} {n0 : Int} {K : Int → Hh → Prop}  (s0 : Int) (h : Hh) (hf : w_J9_abs_0f7a4_10 K   s0 h) : PW G M_J9_abs_0f7a4 rm_J9_abs_0f7a4 0 0 [] n0 K 10 [] [vi s0] [] 0 0 h := by
  unfold w_J9_abs_0f7a4_10 at hf
  exact p_iret dJ9_abs_0f7a4_10 rfl (by decide) (by decide) (fun _ h => absurd h List.not_mem_nil) hf
def w_J9_abs_0f7a4 (x0 : Int) (h : Hh) (K : Int → Hh → Prop) : Prop := if x0 ≥ 0 then (w_J9_abs_0f7a4_10 K   x0 h) else (w_J9_abs_0f7a4_10 K   (w32 (-x0)) h)
set_option maxRecDepth 100000 in
set_option maxHeartbeats 4000000 in
theorem t_J9_abs_0f7a4 {G : Gx} (x0 : Int) (h : Hh) (K : Int → Hh → Prop) (hf : w_J9_abs_0f7a4 x0 h K) : CT G M_J9_abs_0f7a4 rm_J9_abs_0f7a4 0 0 [] [vi x0] h K := by
  unfold w_J9_abs_0f7a4 at hf
  refine CT.of (ls0 := [(0, vi x0)]) (by decide +kernel) (by decide +kernel) (Nat.le_of_ble_eq_true rfl) rfl rfl ?_
  refine p_iload_n dJ9_abs_0f7a4_0 rfl 0 rfl ?_
  refine p_if_ge (tgt := 9) (q := x0 ≥ 0) dJ9_abs_0f7a4_1 (by decide) Iff.rfl (fun hc => ?_) (fun hc => ?_)
  · replace hf := Eq.mp (if_pos hc) hf
    refine p_iload_n dJ9_abs_0f7a4_9 rfl 0 rfl ?_
    refine p_sub (ls' := []) [] rfl ?_
    exact t_J9_abs_0f7a4_10  _ _ hf
  · replace hf := Eq.mp (if_neg hc) hf
    refine p_iload_n dJ9_abs_0f7a4_4 rfl 0 rfl ?_
    refine p_ineg dJ9_abs_0f7a4_5 ?_
    refine p_goto (tgt := 10) dJ9_abs_0f7a4_6 (by decide) ?_
    refine p_sub (ls' := []) [] rfl ?_
    exact t_J9_abs_0f7a4_10  _ _ hf
theorem ok_J9_abs_0f7a4 : mOK M_J9_abs_0f7a4 1 := ⟨tb_828, tb_11, by decide +kernel⟩
abbrev M_X6_habitOf : MD := (yX6_habitOf, cX6_habitOf, 4, some .int)
abbrev rm_X6_habitOf : Room := { frames := 1, cells := 0, slots := 0, locals := 23 }
def w_X6_habitOf_74 (K : Int → Hh → Prop) (B : Int → Int → Hh → Prop) (X80 : Hh → Prop) (a0 : Int) (v1 v2 : Int) (h : Hh) : Prop := vb (w32 (v2 + 1)) fun z4 => B v1 z4 h
set_option maxRecDepth 100000 in
set_option maxHeartbeats 4000000 in
theorem t_X6_habitOf_74 {G : Gx} {n0 : Int} {K : Int → Hh → Prop} {B : Int → Int → Hh → Prop} {X80 : Hh → Prop} {a0 : Int} (h0 : 0 ≤ a0) (hB : ∀ (v1 v2 : Int) (h : Hh), B v1 v2 h → PW G M_X6_habitOf rm_X6_habitOf 0 0 [] n0 K 10 [(0, vr 6 a0 0), (1, vi v1), (2, vi v2)] [] [] 0 0 h) (hX80 : ∀ (h : Hh), X80  h → PW G M_X6_habitOf rm_X6_habitOf 0 0 [] n0 K 80 [(0, vr 6 a0 0)] [] [] 0 0 h)  (v1 v2 : Int) (h : Hh) (hf : w_X6_habitOf_74 K B X80 a0 v1 v2 h) : PW G M_X6_habitOf rm_X6_habitOf 0 0 [] n0 K 74 [(0, vr 6 a0 0), (1, vi v1), (2, vi v2)] [] [] 0 0 h := by
  unfold w_X6_habitOf_74 at hf
  refine p_iinc (ls' := [(2, vi (w32 (v2 + 1))), (0, vr 6 a0 0), (1, vi v1)]) dX6_habitOf_74 2 rfl (by decide) rfl ?_
  replace hf := vb_e hf
  generalize w32 (v2 + 1) = z4 at hf ⊢
  refine p_goto (tgt := 10) dX6_habitOf_77 (by decide) ?_
  refine p_sub (ls' := [(0, vr 6 a0 0), (1, vi v1), (2, vi z4)]) [1, 2, 0] rfl ?_
  exact hB _ _ _ hf
def w_X6_habitOf_10 (K : Int → Hh → Prop) (X80 : Hh → Prop) (a0 : Int) : Nat → Int → Int → Hh → Prop
  | 0, _, _, _ => False
  | n + 1, v1, v2, h => if v2 ≥ h a0 7 then (X80  h) else (((0 : Int) ≤ v2 ∧ (v2 : Int) < 60) ∧ (vb (w32 ((h (a0 + 4) v2) - (h (a0 + 6) v2))) fun z3 => if h (a0 + 1) v2 ≠ v1 then (w_X6_habitOf_74 K (w_X6_habitOf_10 K X80 a0 n) X80 a0 v1 v2 h) else (if h (a0 + 6) v2 = (-1) then (w_X6_habitOf_74 K (w_X6_habitOf_10 K X80 a0 n) X80 a0 v1 v2 h) else (w_J9_abs_0f7a4 z3 h (fun r5 h6 => if r5 > 9 then (w_X6_habitOf_74 K (w_X6_habitOf_10 K X80 a0 n) X80 a0 v1 v2 h6) else (((0 : Int) ≤ w32 (9 + z3) ∧ (w32 (9 + z3) : Int) < 19) ∧ (hb (up h6 (a0 + 7) (w32 (9 + z3)) (w32 ((h6 (a0 + 7) (w32 (9 + z3))) + 1))) fun h8 => w_X6_habitOf_74 K (w_X6_habitOf_10 K X80 a0 n) X80 a0 v1 v2 h8)))))))
set_option maxRecDepth 100000 in
set_option maxHeartbeats 4000000 in
theorem t_X6_habitOf_10 {G : Gx} {n0 : Int} {K : Int → Hh → Prop} {X80 : Hh → Prop} {a0 : Int} (h0 : 0 ≤ a0) (hX80 : ∀ (h : Hh), X80  h → PW G M_X6_habitOf rm_X6_habitOf 0 0 [] n0 K 80 [(0, vr 6 a0 0)] [] [] 0 0 h) : ∀ (n : Nat) (v1 v2 : Int) (h : Hh), w_X6_habitOf_10 K X80 a0 n v1 v2 h → PW G M_X6_habitOf rm_X6_habitOf 0 0 [] n0 K 10 [(0, vr 6 a0 0), (1, vi v1), (2, vi v2)] [] [] 0 0 h := by
  intro n
  induction n with
  | zero =>
    intro v1 v2 h hf
    rw [w_X6_habitOf_10] at hf
    exact hf.elim
  | succ n ih =>
    intro v1 v2 h hf
    rw [w_X6_habitOf_10] at hf
    refine p_iload_n dX6_habitOf_10 rfl 2 rfl ?_
    refine p_aload_n dX6_habitOf_11 rfl 0 rfl ?_
    refine p_get (c := 6) (vi (h a0 7)) dX6_habitOf_12 7 tb_123 (by decide) (by decide) (Or.inl rfl) h0 rfl rfl ?_
    refine p_icmp_ge (tgt := 80) (q := v2 ≥ h a0 7) dX6_habitOf_15 (by decide) Iff.rfl (fun hc => ?_) (fun hc => ?_)
    · replace hf := Eq.mp (if_pos hc) hf
      refine p_sub (ls' := [(0, vr 6 a0 0)]) [0] rfl ?_
      exact hX80  _ hf
    · replace hf := Eq.mp (if_neg hc) hf
      refine p_aload_n dX6_habitOf_18 rfl 0 rfl ?_
      refine p_lay (c := 6) (tq := 100) (n := 60) dX6_habitOf_19 3 4 tb_117 (by decide) (by decide) h0 (by decide) (by decide) (fun _ => rfl) (vr 100 (a0 + 4) 60) rfl ?_
      refine p_iload_n dX6_habitOf_22 rfl 2 rfl ?_
      obtain ⟨c2, hf⟩ := hf
      refine p_iald dX6_habitOf_23 (nnk h0 (by decide)) c2 ?_
      refine p_aload_n dX6_habitOf_24 rfl 0 rfl ?_
      refine p_lay (c := 6) (tq := 100) (n := 60) dX6_habitOf_25 5 6 tb_120 (by decide) (by decide) h0 (by decide) (by decide) (fun _ => rfl) (vr 100 (a0 + 6) 60) rfl ?_
      refine p_iload_n dX6_habitOf_28 rfl 2 rfl ?_
      refine p_iald dX6_habitOf_29 (nnk h0 (by decide)) c2 ?_
      refine p_isub dX6_habitOf_30 ?_
      refine p_istore_n (ls' := [(3, vi (w32 ((h (a0 + 4) v2) - (h (a0 + 6) v2)))), (0, vr 6 a0 0), (1, vi v1), (2, vi v2)]) dX6_habitOf_31 rfl (by decide) rfl ?_
      replace hf := vb_e hf
      generalize (w32 ((h (a0 + 4) v2) - (h (a0 + 6) v2))) = z3 at hf ⊢
      refine p_aload_n dX6_habitOf_32 rfl 1 rfl ?_
      refine p_lay (c := 6) (tq := 100) (n := 60) dX6_habitOf_33 0 1 tb_112 (by decide) (by decide) h0 (by decide) (by decide) (fun _ => rfl) (vr 100 (a0 + 1) 60) rfl ?_
      refine p_iload_n dX6_habitOf_36 rfl 3 rfl ?_
      refine p_iald dX6_habitOf_37 (nnk h0 (by decide)) c2 ?_
      refine p_iload_n dX6_habitOf_38 rfl 2 rfl ?_
      refine p_icmp_ne (tgt := 74) (q := h (a0 + 1) v2 ≠ v1) dX6_habitOf_39 (by decide) Iff.rfl (fun hc => ?_) (fun hc => ?_)
      · replace hf := Eq.mp (if_pos hc) hf
        refine p_sub (ls' := [(0, vr 6 a0 0), (1, vi v1), (2, vi v2)]) [1, 2, 3] rfl ?_
        exact t_X6_habitOf_74 h0 ih hX80 _ _ _ hf
      · replace hf := Eq.mp (if_neg hc) hf
        refine p_aload_n dX6_habitOf_42 rfl 1 rfl ?_
        refine p_lay (c := 6) (tq := 100) (n := 60) dX6_habitOf_43 5 6 tb_120 (by decide) (by decide) h0 (by decide) (by decide) (fun _ => rfl) (vr 100 (a0 + 6) 60) rfl ?_
        refine p_iload_n dX6_habitOf_46 rfl 3 rfl ?_
        refine p_iald dX6_habitOf_47 (nnk h0 (by decide)) c2 ?_
        refine p_iconst dX6_habitOf_48 (by decide) ?_
        refine p_icmp_eq (tgt := 74) (q := h (a0 + 6) v2 = (-1)) dX6_habitOf_49 (by decide) Iff.rfl (fun hc => ?_) (fun hc => ?_)
        · replace hf := Eq.mp (if_pos hc) hf
          refine p_sub (ls' := [(0, vr 6 a0 0), (1, vi v1), (2, vi v2)]) [1, 2, 3] rfl ?_
          exact t_X6_habitOf_74 h0 ih hX80 _ _ _ hf
        · replace hf := Eq.mp (if_neg hc) hf
          refine p_iload_n dX6_habitOf_52 rfl 0 rfl ?_
          refine p_callSi dX6_habitOf_53 M_J9_abs_0f7a4 (Or.inl rfl) [vi z3] (t_J9_abs_0f7a4 _ _ _ hf) ok_J9_abs_0f7a4 rfl tb_826 tb_827 rfl (Nat.le_of_ble_eq_true rfl) ⟨rfl, rfl⟩ ⟨by decide, by decide⟩ ⟨by decide, by decide⟩ (fun r5 h6 hf => ?_)
          refine p_bipush dX6_habitOf_56 (by decide) (by decide) ?_
          refine p_icmp_gt (tgt := 74) (q := r5 > 9) dX6_habitOf_58 (by decide) Iff.rfl (fun hc => ?_) (fun hc => ?_)
          · replace hf := Eq.mp (if_pos hc) hf
            refine p_sub (ls' := [(0, vr 6 a0 0), (1, vi v1), (2, vi v2)]) [1, 2, 3] rfl ?_
            exact t_X6_habitOf_74 h0 ih hX80 _ _ _ hf
          · replace hf := Eq.mp (if_neg hc) hf
            refine p_aload_n dX6_habitOf_61 rfl 1 rfl ?_
            refine p_lay (c := 6) (tq := 100) (n := 19) dX6_habitOf_62 6 7 tb_122 (by decide) (by decide) h0 (by decide) (by decide) (fun _ => rfl) (vr 100 (a0 + 7) 19) rfl ?_
            refine p_bipush dX6_habitOf_65 (by decide) (by decide) ?_
            refine p_iload_n dX6_habitOf_67 rfl 0 rfl ?_
            refine p_iadd dX6_habitOf_68 ?_
            refine p_dup2 dX6_habitOf_69 (fun _ q => by cases q) (fun _ q => by cases q) ?_
            obtain ⟨c7, hf⟩ := hf
            refine p_iald dX6_habitOf_70 (nnk h0 (by decide)) c7 ?_
            refine p_iconst dX6_habitOf_71 (by decide) ?_
            refine p_iadd dX6_habitOf_72 ?_
            refine p_iast dX6_habitOf_73 (nnk h0 (by decide)) c7 ?_
            replace hf := hb_e hf
            generalize up h6 (a0 + 7) (w32 (9 + z3)) (w32 ((h6 (a0 + 7) (w32 (9 + z3))) + 1)) = h8 at hf ⊢
            refine p_sub (ls' := [(0, vr 6 a0 0), (1, vi v1), (2, vi v2)]) [1, 2, 3] rfl ?_
            exact t_X6_habitOf_74 h0 ih hX80 _ _ _ hf
def w_X6_habitOf_137 (K : Int → Hh → Prop) (B : Int → Int → Hh → Prop) (a0 : Int) (v2 v3 : Int) (h : Hh) : Prop := vb (w32 (v3 + 1)) fun z14 => B v2 z14 h
set_option maxRecDepth 100000 in
set_option maxHeartbeats 4000000 in
theorem t_X6_habitOf_137 {G : Gx} {n0 : Int} {K : Int → Hh → Prop} {B : Int → Int → Hh → Prop} {a0 : Int} (h0 : 0 ≤ a0) (hB : ∀ (v2 v3 : Int) (h : Hh), B v2 v3 h → PW G M_X6_habitOf rm_X6_habitOf 0 0 [] n0 K 84 [(0, vr 6 a0 0), (2, vi v2), (3, vi v3)] [] [] 0 0 h)  (v2 v3 : Int) (h : Hh) (hf : w_X6_habitOf_137 K B a0 v2 v3 h) : PW G M_X6_habitOf rm_X6_habitOf 0 0 [] n0 K 137 [(0, vr 6 a0 0), (2, vi v2), (3, vi v3)] [] [] 0 0 h := by
  unfold w_X6_habitOf_137 at hf
  refine p_iinc (ls' := [(3, vi (w32 (v3 + 1))), (0, vr 6 a0 0), (2, vi v2)]) dX6_habitOf_137 2 rfl (by decide) rfl ?_
  replace hf := vb_e hf
  generalize w32 (v3 + 1) = z14 at hf ⊢
  refine p_goto (tgt := 84) dX6_habitOf_140 (by decide) ?_
  refine p_sub (ls' := [(0, vr 6 a0 0), (2, vi v2), (3, vi z14)]) [1, 2, 0] rfl ?_
  exact hB _ _ _ hf
def w_X6_habitOf_114 (K : Int → Hh → Prop) (B : Int → Int → Hh → Prop) (a0 : Int) (v2 v3 : Int) (h : Hh) : Prop := ((0 : Int) ≤ w32 (9 + v3) ∧ (w32 (9 + v3) : Int) < 19) ∧ (((0 : Int) ≤ w32 (9 + v2) ∧ (w32 (9 + v2) : Int) < 19) ∧ (if h (a0 + 7) (w32 (9 + v3)) ≤ h (a0 + 7) (w32 (9 + v2)) then (w_X6_habitOf_137 K B a0 v2 v3 h) else (w_X6_habitOf_137 K B a0 v3 v3 h)))
set_option maxRecDepth 100000 in
set_option maxHeartbeats 4000000 in
theorem t_X6_habitOf_114 {G : Gx} {n0 : Int} {K : Int → Hh → Prop} {B : Int → Int → Hh → Prop} {a0 : Int} (h0 : 0 ≤ a0) (hB : ∀ (v2 v3 : Int) (h : Hh), B v2 v3 h → PW G M_X6_habitOf rm_X6_habitOf 0 0 [] n0 K 84 [(0, vr 6 a0 0), (2, vi v2), (3, vi v3)] [] [] 0 0 h)  (v2 v3 : Int) (h : Hh) (hf : w_X6_habitOf_114 K B a0 v2 v3 h) : PW G M_X6_habitOf rm_X6_habitOf 0 0 [] n0 K 114 [(0, vr 6 a0 0), (2, vi v2), (3, vi v3)] [] [] 0 0 h := by
  unfold w_X6_habitOf_114 at hf
  refine p_aload_n dX6_habitOf_114 rfl 0 rfl ?_
  refine p_lay (c := 6) (tq := 100) (n := 19) dX6_habitOf_115 6 7 tb_122 (by decide) (by decide) h0 (by decide) (by decide) (fun _ => rfl) (vr 100 (a0 + 7) 19) rfl ?_
  refine p_bipush dX6_habitOf_118 (by decide) (by decide) ?_
  refine p_iload_n dX6_habitOf_120 rfl 2 rfl ?_
  refine p_iadd dX6_habitOf_121 ?_
  obtain ⟨c12, hf⟩ := hf
  refine p_iald dX6_habitOf_122 (nnk h0 (by decide)) c12 ?_
  refine p_aload_n dX6_habitOf_123 rfl 0 rfl ?_
  refine p_lay (c := 6) (tq := 100) (n := 19) dX6_habitOf_124 6 7 tb_122 (by decide) (by decide) h0 (by decide) (by decide) (fun _ => rfl) (vr 100 (a0 + 7) 19) rfl ?_
  refine p_bipush dX6_habitOf_127 (by decide) (by decide) ?_
  refine p_iload_n dX6_habitOf_129 rfl 1 rfl ?_
  refine p_iadd dX6_habitOf_130 ?_
  obtain ⟨c13, hf⟩ := hf
  refine p_iald dX6_habitOf_131 (nnk h0 (by decide)) c13 ?_
  refine p_icmp_le (tgt := 137) (q := h (a0 + 7) (w32 (9 + v3)) ≤ h (a0 + 7) (w32 (9 + v2))) dX6_habitOf_132 (by decide) Iff.rfl (fun hc => ?_) (fun hc => ?_)
  · replace hf := Eq.mp (if_pos hc) hf
    exact t_X6_habitOf_137 h0 hB _ _ _ hf
  · replace hf := Eq.mp (if_neg hc) hf
    refine p_iload_n dX6_habitOf_135 rfl 2 rfl ?_
    refine p_istore_n (ls' := [(2, vi v3), (0, vr 6 a0 0), (3, vi v3)]) dX6_habitOf_136 rfl (by decide) rfl ?_
    refine p_sub (ls' := [(0, vr 6 a0 0), (2, vi v3), (3, vi v3)]) [1, 0, 2] rfl ?_
    exact t_X6_habitOf_137 h0 hB _ _ _ hf
def w_X6_habitOf_84 (K : Int → Hh → Prop) (a0 : Int) : Nat → Int → Int → Hh → Prop
  | 0, _, _, _ => False
  | n + 1, v2, v3, h => if v3 > 9 then (K v2 h) else (((0 : Int) ≤ w32 (9 - v3) ∧ (w32 (9 - v3) : Int) < 19) ∧ (((0 : Int) ≤ w32 (9 + v2) ∧ (w32 (9 + v2) : Int) < 19) ∧ (if h (a0 + 7) (w32 (9 - v3)) ≤ h (a0 + 7) (w32 (9 + v2)) then (w_X6_habitOf_114 K (w_X6_habitOf_84 K  a0 n) a0 v2 v3 h) else (vb (w32 (-v3)) fun z15 => w_X6_habitOf_114 K (w_X6_habitOf_84 K  a0 n) a0 z15 v3 h))))
set_option maxRecDepth 100000 in
set_option maxHeartbeats 4000000 in
theorem t_X6_habitOf_84 {G : Gx} {n0 : Int} {K : Int → Hh → Prop} {a0 : Int} (h0 : 0 ≤ a0) : ∀ (n : Nat) (v2 v3 : Int) (h : Hh), w_X6_habitOf_84 K  a0 n v2 v3 h → PW G M_X6_habitOf rm_X6_habitOf 0 0 [] n0 K 84 [(0, vr 6 a0 0), (2, vi v2), (3, vi v3)] [] [] 0 0 h := by
  intro n
  induction n with
  | zero =>
    intro v2 v3 h hf
    rw [w_X6_habitOf_84] at hf
    exact hf.elim
  | succ n ih =>
    intro v2 v3 h hf
    rw [w_X6_habitOf_84] at hf
    refine p_iload_n dX6_habitOf_84 rfl 2 rfl ?_
    refine p_bipush dX6_habitOf_85 (by decide) (by decide) ?_
    refine p_icmp_gt (tgt := 143) (q := v3 > 9) dX6_habitOf_87 (by decide) Iff.rfl (fun hc => ?_) (fun hc => ?_)
    · replace hf := Eq.mp (if_pos hc) hf
      refine p_iload_n dX6_habitOf_143 rfl 1 rfl ?_
      exact p_iret dX6_habitOf_144 rfl (by decide) (by decide) (fun _ h => absurd h List.not_mem_nil) hf
    · replace hf := Eq.mp (if_neg hc) hf
      refine p_aload_n dX6_habitOf_90 rfl 0 rfl ?_
      refine p_lay (c := 6) (tq := 100) (n := 19) dX6_habitOf_91 6 7 tb_122 (by decide) (by decide) h0 (by decide) (by decide) (fun _ => rfl) (vr 100 (a0 + 7) 19) rfl ?_
      refine p_bipush dX6_habitOf_94 (by decide) (by decide) ?_
      refine p_iload_n dX6_habitOf_96 rfl 2 rfl ?_
      refine p_isub dX6_habitOf_97 ?_
      obtain ⟨c10, hf⟩ := hf
      refine p_iald dX6_habitOf_98 (nnk h0 (by decide)) c10 ?_
      refine p_aload_n dX6_habitOf_99 rfl 0 rfl ?_
      refine p_lay (c := 6) (tq := 100) (n := 19) dX6_habitOf_100 6 7 tb_122 (by decide) (by decide) h0 (by decide) (by decide) (fun _ => rfl) (vr 100 (a0 + 7) 19) rfl ?_
      refine p_bipush dX6_habitOf_103 (by decide) (by decide) ?_
      refine p_iload_n dX6_habitOf_105 rfl 1 rfl ?_
      refine p_iadd dX6_habitOf_106 ?_
      obtain ⟨c11, hf⟩ := hf
      refine p_iald dX6_habitOf_107 (nnk h0 (by decide)) c11 ?_
      refine p_icmp_le (tgt := 114) (q := h (a0 + 7) (w32 (9 - v3)) ≤ h (a0 + 7) (w32 (9 + v2))) dX6_habitOf_108 (by decide) Iff.rfl (fun hc => ?_) (fun hc => ?_)
      · replace hf := Eq.mp (if_pos hc) hf
        exact t_X6_habitOf_114 h0 ih _ _ _ hf
      · replace hf := Eq.mp (if_neg hc) hf
        refine p_iload_n dX6_habitOf_111 rfl 2 rfl ?_
        refine p_ineg dX6_habitOf_112 ?_
        refine p_istore_n (ls' := [(2, vi (w32 (-v3))), (0, vr 6 a0 0), (3, vi v3)]) dX6_habitOf_113 rfl (by decide) rfl ?_
        replace hf := vb_e hf
        generalize (w32 (-v3)) = z15 at hf ⊢
        refine p_sub (ls' := [(0, vr 6 a0 0), (2, vi z15), (3, vi v3)]) [1, 0, 2] rfl ?_
        exact t_X6_habitOf_114 h0 ih _ _ _ hf
def w_X6_habitOf (a0 x1 : Int) (h : Hh) (K : Int → Hh → Prop) : Prop := w_J7_fill_53178 (a0 + 7) 19 0 h (fun _ h1 => w_X6_habitOf_10 K (fun h9 => w_X6_habitOf_84 K  a0 NF 0 1 h9) a0 NF x1 0 h1)
set_option maxRecDepth 100000 in
set_option maxHeartbeats 4000000 in
theorem t_X6_habitOf {G : Gx} (a0 x1 : Int) (h : Hh) (K : Int → Hh → Prop) (h0 : 0 ≤ a0) (hf : w_X6_habitOf a0 x1 h K) : CT G M_X6_habitOf rm_X6_habitOf 0 0 [] [vr 6 a0 0, vi x1] h K := by
  unfold w_X6_habitOf at hf
  refine CT.of (ls0 := [(0, vr 6 a0 0), (1, vi x1)]) (plainFor_of_name (by decide +kernel)) (by decide +kernel) (Nat.le_of_ble_eq_true rfl) rfl rfl ?_
  refine p_aload_n dX6_habitOf_0 rfl 0 rfl ?_
  refine p_lay (c := 6) (tq := 100) (n := 19) dX6_habitOf_1 6 7 tb_122 (by decide) (by decide) h0 (by decide) (by decide) (fun _ => rfl) (vr 100 (a0 + 7) 19) rfl ?_
  refine p_iconst dX6_habitOf_4 (by decide) ?_
  refine p_callSv dX6_habitOf_5 M_J7_fill_53178 rfl [vr 100 (a0 + 7) 19, vi 0] (t_J7_fill_53178 _ _ _ _ _ hf) ok_J7_fill_53178 rfl tb_823 tb_824 rfl (Nat.le_of_ble_eq_true rfl) ⟨rfl, rfl⟩ ⟨by decide, by decide⟩ ⟨by decide, by decide⟩ (fun _ h1 hf => ?_)
  refine p_iconst dX6_habitOf_8 (by decide) ?_
  refine p_istore_n (ls' := [(2, vi 0), (0, vr 6 a0 0), (1, vi x1)]) dX6_habitOf_9 rfl (by decide) rfl ?_
  refine p_sub (ls' := [(0, vr 6 a0 0), (1, vi x1), (2, vi 0)]) [1, 2, 0] rfl ?_
  refine t_X6_habitOf_10 h0 ?_ NF _ _ _ hf
  · intro h9 hf
    refine p_iconst dX6_habitOf_80 (by decide) ?_
    refine p_istore_n (ls' := [(2, vi 0), (0, vr 6 a0 0)]) dX6_habitOf_81 rfl (by decide) rfl ?_
    refine p_iconst dX6_habitOf_82 (by decide) ?_
    refine p_istore_n (ls' := [(3, vi 1), (2, vi 0), (0, vr 6 a0 0)]) dX6_habitOf_83 rfl (by decide) rfl ?_
    refine p_sub (ls' := [(0, vr 6 a0 0), (2, vi 0), (3, vi 1)]) [2, 1, 0] rfl ?_
    refine t_X6_habitOf_84 h0  NF _ _ _ hf
theorem ok_X6_habitOf : mOK M_X6_habitOf 1 := ⟨tb_822, tb_5, by decide +kernel⟩
abbrev M_X6_isBad : MD := (yX6_isBad, cX6_isBad, 4, some .boolean)
abbrev rm_X6_isBad : Room := { frames := 2, cells := 0, slots := 0, locals := 46 }
def w_X6_isBad_18 (K : Int → Hh → Prop) (a0 : Int) (h : Hh) : Prop := K 0 h
set_option maxRecDepth 100000 in
set_option maxHeartbeats 4000000 in
theorem t_X6_isBad_18 {G : Gx} {n0 : Int} {K : Int → Hh → Prop} {a0 : Int} (h0 : 0 ≤ a0)  (h : Hh) (hf : w_X6_isBad_18 K  a0  h) : PW G M_X6_isBad rm_X6_isBad 0 0 [] n0 K 18 [] [] [] 0 0 h := by
  unfold w_X6_isBad_18 at hf
  refine p_iconst dX6_isBad_18 (by decide) ?_
  exact p_zret dX6_isBad_19 rfl (by decide) (by decide) (fun _ h => absurd h List.not_mem_nil) (Or.inl rfl) hf
def w_X6_isBad_58 (K : Int → Hh → Prop) (a0 : Int) (s0 : Int) (h : Hh) : Prop := (s0 = 0 ∨ s0 = 1) ∧ (K s0 h)
set_option maxRecDepth 100000 in
set_option maxHeartbeats 4000000 in
theorem t_X6_isBad_58 {G : Gx} {n0 : Int} {K : Int → Hh → Prop} {a0 : Int} (h0 : 0 ≤ a0)  (s0 : Int) (h : Hh) (hf : w_X6_isBad_58 K  a0 s0 h) : PW G M_X6_isBad rm_X6_isBad 0 0 [] n0 K 58 [] [vi s0] [] 0 0 h := by
  unfold w_X6_isBad_58 at hf
  obtain ⟨c9, hf⟩ := hf
  exact p_zret dX6_isBad_58 rfl (by decide) (by decide) (fun _ h => absurd h List.not_mem_nil) c9 hf
def w_X6_isBad (a0 x1 x2 : Int) (h : Hh) (K : Int → Hh → Prop) : Prop := w_X6_has a0 x1 h (fun r1 h2 => if r1 = 0 then (w_X6_isBad_18 K  a0  h2) else (((0 : Int) ≤ x1 ∧ (x1 : Int) < 60) ∧ (if h2 (a0 + 6) x1 ≠ (-1) then (w_X6_habitOf a0 (h2 (a0 + 1) x1) h2 (fun r4 h5 => vb (w32 ((h2 (a0 + 6) x1) + r4)) fun z6 => w_J9_abs_0f7a4 (w32 ((h5 (a0 + 4) x1) - z6)) h5 (fun r7 h8 => if r7 ≤ x2 then (w_X6_isBad_58 K  a0 0 h8) else (w_X6_isBad_58 K  a0 1 h8)))) else (w_X6_isBad_18 K  a0  h2))))
set_option maxRecDepth 100000 in
set_option maxHeartbeats 4000000 in
theorem t_X6_isBad {G : Gx} (a0 x1 x2 : Int) (h : Hh) (K : Int → Hh → Prop) (h0 : 0 ≤ a0) (hf : w_X6_isBad a0 x1 x2 h K) : CT G M_X6_isBad rm_X6_isBad 0 0 [] [vr 6 a0 0, vi x1, vi x2] h K := by
  unfold w_X6_isBad at hf
  refine CT.of (ls0 := [(0, vr 6 a0 0), (1, vi x1), (2, vi x2)]) (plainFor_of_name (by decide +kernel)) (by decide +kernel) (Nat.le_of_ble_eq_true rfl) rfl rfl ?_
  refine p_aload_n dX6_isBad_0 rfl 0 rfl ?_
  refine p_iload_n dX6_isBad_1 rfl 1 rfl ?_
  refine p_callVi dX6_isBad_2 M_X6_has (Or.inr rfl) [vi x1] (t_X6_has _ _ _ _ h0 hf) ok_X6_has rfl (c := 6) (by decide) h0 rfl tb_818 ⟨tb_805, ts_59⟩ rfl (Nat.le_of_ble_eq_true rfl) ⟨rfl, rfl⟩ ⟨by decide, by decide⟩ ⟨by decide, by decide⟩ (fun r1 h2 hf => ?_)
  refine p_if_eq (tgt := 18) (q := r1 = 0) dX6_isBad_5 (by decide) Iff.rfl (fun hc => ?_) (fun hc => ?_)
  · replace hf := Eq.mp (if_pos hc) hf
    refine p_sub (ls' := []) [] rfl ?_
    exact t_X6_isBad_18 h0   _ hf
  · replace hf := Eq.mp (if_neg hc) hf
    refine p_aload_n dX6_isBad_8 rfl 0 rfl ?_
    refine p_lay (c := 6) (tq := 100) (n := 60) dX6_isBad_9 5 6 tb_120 (by decide) (by decide) h0 (by decide) (by decide) (fun _ => rfl) (vr 100 (a0 + 6) 60) rfl ?_
    refine p_iload_n dX6_isBad_12 rfl 1 rfl ?_
    obtain ⟨c3, hf⟩ := hf
    refine p_iald dX6_isBad_13 (nnk h0 (by decide)) c3 ?_
    refine p_iconst dX6_isBad_14 (by decide) ?_
    refine p_icmp_ne (tgt := 20) (q := h2 (a0 + 6) x1 ≠ (-1)) dX6_isBad_15 (by decide) Iff.rfl (fun hc => ?_) (fun hc => ?_)
    · replace hf := Eq.mp (if_pos hc) hf
      refine p_aload_n dX6_isBad_20 rfl 0 rfl ?_
      refine p_lay (c := 6) (tq := 100) (n := 60) dX6_isBad_21 5 6 tb_120 (by decide) (by decide) h0 (by decide) (by decide) (fun _ => rfl) (vr 100 (a0 + 6) 60) rfl ?_
      refine p_iload_n dX6_isBad_24 rfl 1 rfl ?_
      refine p_iald dX6_isBad_25 (nnk h0 (by decide)) c3 ?_
      refine p_aload_n dX6_isBad_26 rfl 0 rfl ?_
      refine p_aload_n dX6_isBad_27 rfl 0 rfl ?_
      refine p_lay (c := 6) (tq := 100) (n := 60) dX6_isBad_28 0 1 tb_112 (by decide) (by decide) h0 (by decide) (by decide) (fun _ => rfl) (vr 100 (a0 + 1) 60) rfl ?_
      refine p_iload_n dX6_isBad_31 rfl 1 rfl ?_
      refine p_iald dX6_isBad_32 (nnk h0 (by decide)) c3 ?_
      refine p_callVi dX6_isBad_33 M_X6_habitOf (Or.inl rfl) [vi (h2 (a0 + 1) x1)] (t_X6_habitOf _ _ _ _ h0 hf) ok_X6_habitOf rfl (c := 6) (by decide) h0 rfl tb_819 ⟨tb_821, ts_62⟩ rfl (Nat.le_of_ble_eq_true rfl) ⟨rfl, rfl⟩ ⟨by decide, by decide⟩ ⟨by decide, by decide⟩ (fun r4 h5 hf => ?_)
      refine p_iadd dX6_isBad_36 ?_
      refine p_istore_n (ls' := [(3, vi (w32 ((h2 (a0 + 6) x1) + r4))), (0, vr 6 a0 0), (1, vi x1), (2, vi x2)]) dX6_isBad_37 rfl (by decide) rfl ?_
      replace hf := vb_e hf
      generalize (w32 ((h2 (a0 + 6) x1) + r4)) = z6 at hf ⊢
      refine p_aload_n dX6_isBad_38 rfl 1 rfl ?_
      refine p_lay (c := 6) (tq := 100) (n := 60) dX6_isBad_39 3 4 tb_117 (by decide) (by decide) h0 (by decide) (by decide) (fun _ => rfl) (vr 100 (a0 + 4) 60) rfl ?_
      refine p_iload_n dX6_isBad_42 rfl 2 rfl ?_
      refine p_iald dX6_isBad_43 (nnk h0 (by decide)) c3 ?_
      refine p_iload_n dX6_isBad_44 rfl 0 rfl ?_
      refine p_isub dX6_isBad_45 ?_
      refine p_callSi dX6_isBad_46 M_J9_abs_0f7a4 (Or.inl rfl) [vi (w32 ((h5 (a0 + 4) x1) - z6))] (t_J9_abs_0f7a4 _ _ _ hf) ok_J9_abs_0f7a4 rfl tb_826 tb_827 rfl (Nat.le_of_ble_eq_true rfl) ⟨rfl, rfl⟩ ⟨by decide, by decide⟩ ⟨by decide, by decide⟩ (fun r7 h8 hf => ?_)
      refine p_iload_n dX6_isBad_49 rfl 3 rfl ?_
      refine p_icmp_le (tgt := 57) (q := r7 ≤ x2) dX6_isBad_50 (by decide) Iff.rfl (fun hc => ?_) (fun hc => ?_)
      · replace hf := Eq.mp (if_pos hc) hf
        refine p_iconst dX6_isBad_57 (by decide) ?_
        refine p_sub (ls' := []) [] rfl ?_
        exact t_X6_isBad_58 h0  _ _ hf
      · replace hf := Eq.mp (if_neg hc) hf
        refine p_iconst dX6_isBad_53 (by decide) ?_
        refine p_goto (tgt := 58) dX6_isBad_54 (by decide) ?_
        refine p_sub (ls' := []) [] rfl ?_
        exact t_X6_isBad_58 h0  _ _ hf
    · replace hf := Eq.mp (if_neg hc) hf
      refine p_sub (ls' := []) [] rfl ?_
      exact t_X6_isBad_18 h0   _ hf
theorem ok_X6_isBad : mOK M_X6_isBad 2 := ⟨tb_817, tb_5, by decide +kernel⟩
abbrev M_X7_init : MD := (yX7_init, cX7_init, 2, none)
abbrev rm_X7_init : Room := { frames := 1, cells := 10, slots := 260, locals := 24 }
def w_X7_init (a0 x1 : Int) (h : Hh) (K : Int → Hh → Prop) : Prop := 0 ≤ x1 ∧ (hb (up h a0 0 (h x1 2)) fun h2 => hb (up h2 a0 1 (h2 x1 3)) fun h3 => (h3 (-1) 0 = a0 + 1) ∧ (hb (nw h3 (h3 (x1 + 1))) fun h5 => hb (up h5 a0 2 (a0 + 1)) fun h6 => (h6 (-1) 0 = a0 + 2) ∧ (hb (nw h6 (h6 (x1 + 2))) fun h8 => hb (up h8 a0 3 (a0 + 2)) fun h9 => (h9 (-1) 0 = a0 + 3) ∧ (hb (nw h9 (fun _ => 0)) fun h11 => hb (up h11 a0 4 (a0 + 3)) fun h12 => (h12 (-1) 0 = a0 + 4) ∧ (hb (mul h12) fun h14 => hb (up h14 a0 5 (a0 + 4)) fun h15 => (h15 (-1) 0 = a0 + 10) ∧ (hb (nw h15 (fun _ => 0)) fun h17 => hb (up h17 a0 6 (a0 + 10)) fun h18 => K 0 h18))))))
set_option maxRecDepth 100000 in
set_option maxHeartbeats 4000000 in
theorem t_X7_init {G : Gx} (a0 x1 : Int) (h : Hh) (K : Int → Hh → Prop) (h0 : 0 ≤ a0) (hf : w_X7_init a0 x1 h K) : CT G M_X7_init rm_X7_init 10 260 [vr 100 (a0 + 1) 5, vr 100 (a0 + 2) 5, vr 100 (a0 + 3) 5, vr 105 (a0 + 4) 5, vr 100 (a0 + 10) 40] [vr 57 a0 0, vr 5 x1 0] h K := by
  unfold w_X7_init at hf
  refine CT.of (ls0 := [(0, vr 57 a0 0), (1, vr 5 x1 0)]) (plainFor_of_name (by decide +kernel)) (by decide +kernel) (Nat.le_of_ble_eq_true rfl) rfl rfl ?_
  refine p_aload_n dX7_init_0 rfl 0 rfl ?_
  refine p_oinit dX7_init_1 tb_343 tb_22 tb_23 (by decide) h0 (Nat.le_of_ble_eq_true rfl) ⟨by decide, by decide⟩ ?_
  refine p_aload_n dX7_init_4 rfl 0 rfl ?_
  refine p_aload_n dX7_init_5 rfl 1 rfl ?_
  obtain ⟨c1, hf⟩ := hf
  refine p_getN (c := 5) (vi (h x1 2)) dX7_init_6 2 tb_50 (by decide) (by decide) (Or.inl rfl) c1 rfl rfl ?_
  refine p_putiF (c := 7) dX7_init_9 0 tb_353 (by decide) (by decide) (Or.inr rfl) h0 rfl rfl rfl rfl rfl (fun q => absurd q (by decide)) (up h a0 0 (h x1 2)) rfl ?_
  replace hf := hb_e hf
  generalize up h a0 0 (h x1 2) = h2 at hf ⊢
  refine p_aload_n dX7_init_12 rfl 0 rfl ?_
  refine p_aload_n dX7_init_13 rfl 1 rfl ?_
  refine p_getN (c := 5) (vi (h2 x1 3)) dX7_init_14 3 tb_52 (by decide) (by decide) (Or.inl rfl) c1 rfl rfl ?_
  refine p_putiF (c := 7) dX7_init_17 1 tb_356 (by decide) (by decide) (Or.inr rfl) h0 rfl rfl rfl rfl rfl (fun q => absurd q (by decide)) (up h2 a0 1 (h2 x1 3)) rfl ?_
  replace hf := hb_e hf
  generalize up h2 a0 1 (h2 x1 3) = h3 at hf ⊢
  refine p_aload_n dX7_init_20 rfl 0 rfl ?_
  refine p_aload_n dX7_init_21 rfl 1 rfl ?_
  refine p_layN (c := 5) (tq := 100) (n := 5) dX7_init_22 0 1 tb_47 (by decide) (by decide) c1 (by decide) (by decide) (fun _ => rfl) (vr 100 (x1 + 1) 5) rfl ?_
  obtain ⟨c4, hf⟩ := hf
  refine p_clone (z := a0 + 1) dX7_init_25 tb_344 tb_345 tb_346 tb_347 tb_348 (nnk c1 (by decide)) (Nat.le_of_ble_eq_true rfl) ⟨by decide, by decide⟩ c4 ⟨by decide, by decide⟩ ?_
  replace hf := hb_e hf
  generalize nw h3 (h3 (x1 + 1)) = h5 at hf ⊢
  refine p_norm (kn' := [vr 100 (a0 + 1) 5]) (cells' := 1) (slots' := 5) rfl rfl rfl ?_
  refine p_castI dX7_init_28 tb_350 (nnk h0 (by decide)) ?_
  refine p_putaF (c := 7) dX7_init_31 2 tb_358 (by decide) (by decide) (Or.inr rfl) h0 rfl rfl rfl rfl rfl (by decide) (fun q => absurd q (by decide)) (up h5 a0 2 (a0 + 1)) rfl ?_
  replace hf := hb_e hf
  generalize up h5 a0 2 (a0 + 1) = h6 at hf ⊢
  refine p_aload_n dX7_init_34 rfl 0 rfl ?_
  refine p_aload_n dX7_init_35 rfl 1 rfl ?_
  refine p_layN (c := 5) (tq := 100) (n := 5) dX7_init_36 1 2 tb_49 (by decide) (by decide) c1 (by decide) (by decide) (fun _ => rfl) (vr 100 (x1 + 2) 5) rfl ?_
  obtain ⟨c7, hf⟩ := hf
  refine p_clone (z := a0 + 2) dX7_init_39 tb_344 tb_345 tb_346 tb_347 tb_348 (nnk c1 (by decide)) (Nat.le_of_ble_eq_true rfl) ⟨by decide, by decide⟩ c7 ⟨by decide, by decide⟩ ?_
  replace hf := hb_e hf
  generalize nw h6 (h6 (x1 + 2)) = h8 at hf ⊢
  refine p_norm (kn' := [vr 100 (a0 + 2) 5, vr 100 (a0 + 1) 5]) (cells' := 2) (slots' := 10) rfl rfl rfl ?_
  refine p_castI dX7_init_42 tb_350 (nnk h0 (by decide)) ?_
  refine p_putaF (c := 7) dX7_init_45 3 tb_359 (by decide) (by decide) (Or.inr rfl) h0 rfl rfl rfl rfl rfl (by decide) (fun q => absurd q (by decide)) (up h8 a0 3 (a0 + 2)) rfl ?_
  replace hf := hb_e hf
  generalize up h8 a0 3 (a0 + 2) = h9 at hf ⊢
  refine p_aload_n dX7_init_48 rfl 0 rfl ?_
  refine p_iconst dX7_init_49 (by decide) ?_
  obtain ⟨c10, hf⟩ := hf
  refine p_newa (t := 100) (ti := 0) (ty := .int) (z := a0 + 3) dX7_init_50 rfl (Or.inl ⟨rfl, rfl⟩) rfl tb_75 (by decide) c10 ⟨by decide, by decide⟩ ?_
  replace hf := hb_e hf
  generalize nw h9 (fun _ => 0) = h11 at hf ⊢
  refine p_norm (kn' := [vr 100 (a0 + 3) 5, vr 100 (a0 + 2) 5, vr 100 (a0 + 1) 5]) (cells' := 3) (slots' := 15) rfl rfl rfl ?_
  refine p_putaF (c := 7) dX7_init_52 4 tb_360 (by decide) (by decide) (Or.inr rfl) h0 rfl rfl rfl rfl rfl (by decide) (fun q => absurd q (by decide)) (up h11 a0 4 (a0 + 3)) rfl ?_
  replace hf := hb_e hf
  generalize up h11 a0 4 (a0 + 3) = h12 at hf ⊢
  refine p_aload_n dX7_init_55 rfl 0 rfl ?_
  refine p_iconst dX7_init_56 (by decide) ?_
  refine p_bipush dX7_init_57 (by decide) (by decide) ?_
  obtain ⟨c13, hf⟩ := hf
  refine p_multi (z := a0 + 4) dX7_init_59 tb_351 tb_75 c13 ⟨by decide, by decide⟩ ?_
  replace hf := hb_e hf
  generalize mul h12 = h14 at hf ⊢
  refine p_norm (kn' := [vr 105 (a0 + 4) 5, vr 100 (a0 + 3) 5, vr 100 (a0 + 2) 5, vr 100 (a0 + 1) 5]) (cells' := 9) (slots' := 220) rfl rfl rfl ?_
  refine p_putaF (c := 7) dX7_init_63 5 tb_361 (by decide) (by decide) (Or.inr rfl) h0 rfl rfl rfl rfl rfl (by decide) (fun q => absurd q (by decide)) (up h14 a0 5 (a0 + 4)) rfl ?_
  replace hf := hb_e hf
  generalize up h14 a0 5 (a0 + 4) = h15 at hf ⊢
  refine p_aload_n dX7_init_66 rfl 0 rfl ?_
  refine p_bipush dX7_init_67 (by decide) (by decide) ?_
  obtain ⟨c16, hf⟩ := hf
  refine p_newa (t := 100) (ti := 0) (ty := .int) (z := a0 + 10) dX7_init_69 rfl (Or.inl ⟨rfl, rfl⟩) rfl tb_75 (by decide) c16 ⟨by decide, by decide⟩ ?_
  replace hf := hb_e hf
  generalize nw h15 (fun _ => 0) = h17 at hf ⊢
  refine p_norm (kn' := [vr 100 (a0 + 10) 40, vr 105 (a0 + 4) 5, vr 100 (a0 + 3) 5, vr 100 (a0 + 2) 5, vr 100 (a0 + 1) 5]) (cells' := 10) (slots' := 260) rfl rfl rfl ?_
  refine p_putaF (c := 7) dX7_init_71 6 tb_362 (by decide) (by decide) (Or.inr rfl) h0 rfl rfl rfl rfl rfl (by decide) (fun q => absurd q (by decide)) (up h17 a0 6 (a0 + 10)) rfl ?_
  replace hf := hb_e hf
  generalize up h17 a0 6 (a0 + 10) = h18 at hf ⊢
  exact p_vret dX7_init_74 rfl (by decide) (by decide) (List.forall_mem_cons.mpr ⟨List.mem_of_getElem? (i := 4) rfl, List.forall_mem_cons.mpr ⟨List.mem_of_getElem? (i := 3) rfl, List.forall_mem_cons.mpr ⟨List.mem_of_getElem? (i := 2) rfl, List.forall_mem_cons.mpr ⟨List.mem_of_getElem? (i := 1) rfl, List.forall_mem_cons.mpr ⟨List.mem_of_getElem? (i := 0) rfl, fun _ h => absurd h List.not_mem_nil⟩⟩⟩⟩⟩) hf
theorem ok_X7_init : mOK M_X7_init 1 := ⟨tb_342, tb_10, by decide +kernel⟩
abbrev M_X7_kindOf : MD := (yX7_kindOf, cX7_kindOf, 2, some .int)
abbrev rm_X7_kindOf : Room := { frames := 1, cells := 0, slots := 0, locals := 21 }
def w_X7_kindOf_19 (K : Int → Hh → Prop) (a0 : Int) (s0 : Int) (h : Hh) : Prop := K s0 h
set_option maxRecDepth 100000 in
set_option maxHeartbeats 4000000 in
theorem t_X7_kindOf_19 {G : Gx} {n0 : Int} {K : Int → Hh → Prop} {a0 : Int} (h0 : 0 ≤ a0)  (s0 : Int) (h : Hh) (hf : w_X7_kindOf_19 K  a0 s0 h) : PW G M_X7_kindOf rm_X7_kindOf 0 0 [] n0 K 19 [] [vi s0] [] 0 0 h := by
  unfold w_X7_kindOf_19 at hf
  exact p_iret dX7_kindOf_19 rfl (by decide) (by decide) (fun _ h => absurd h List.not_mem_nil) hf
def w_X7_kindOf (a0 x1 : Int) (h : Hh) (K : Int → Hh → Prop) : Prop := w_X7_hasTerm a0 x1 h (fun r1 h2 => if r1 = 0 then (w_X7_kindOf_19 K  a0 (-2147483648) h2) else (((0 : Int) ≤ x1 ∧ (x1 : Int) < 5) ∧ (w_X7_kindOf_19 K  a0 (h2 (a0 + 1) x1) h2)))
set_option maxRecDepth 100000 in
set_option maxHeartbeats 4000000 in
theorem t_X7_kindOf {G : Gx} (a0 x1 : Int) (h : Hh) (K : Int → Hh → Prop) (h0 : 0 ≤ a0) (hf : w_X7_kindOf a0 x1 h K) : CT G M_X7_kindOf rm_X7_kindOf 0 0 [] [vr 7 a0 0, vi x1] h K := by
  unfold w_X7_kindOf at hf
  refine CT.of (ls0 := [(0, vr 7 a0 0), (1, vi x1)]) (plainFor_of_name (by decide +kernel)) (by decide +kernel) (Nat.le_of_ble_eq_true rfl) rfl rfl ?_
  refine p_aload_n dX7_kindOf_0 rfl 0 rfl ?_
  refine p_iload_n dX7_kindOf_1 rfl 1 rfl ?_
  refine p_callVi dX7_kindOf_2 M_X7_hasTerm (Or.inr rfl) [vi x1] (t_X7_hasTerm _ _ _ _ h0 hf) ok_X7_hasTerm rfl (c := 7) (by decide) h0 rfl tb_394 ⟨tb_396, ts_13⟩ rfl (Nat.le_of_ble_eq_true rfl) ⟨rfl, rfl⟩ ⟨by decide, by decide⟩ ⟨by decide, by decide⟩ (fun r1 h2 hf => ?_)
  refine p_if_eq (tgt := 17) (q := r1 = 0) dX7_kindOf_5 (by decide) Iff.rfl (fun hc => ?_) (fun hc => ?_)
  · replace hf := Eq.mp (if_pos hc) hf
    refine p_ldc (z := (-2147483648)) dX7_kindOf_17 tb_398 (by decide) ?_
    refine p_sub (ls' := []) [] rfl ?_
    exact t_X7_kindOf_19 h0  _ _ hf
  · replace hf := Eq.mp (if_neg hc) hf
    refine p_aload_n dX7_kindOf_8 rfl 0 rfl ?_
    refine p_lay (c := 7) (tq := 100) (n := 5) dX7_kindOf_9 2 1 tb_358 (by decide) (by decide) h0 (by decide) (by decide) (fun _ => rfl) (vr 100 (a0 + 1) 5) rfl ?_
    refine p_iload_n dX7_kindOf_12 rfl 1 rfl ?_
    obtain ⟨c3, hf⟩ := hf
    refine p_iald dX7_kindOf_13 (nnk h0 (by decide)) c3 ?_
    refine p_goto (tgt := 19) dX7_kindOf_14 (by decide) ?_
    refine p_sub (ls' := []) [] rfl ?_
    exact t_X7_kindOf_19 h0  _ _ hf
theorem ok_X7_kindOf : mOK M_X7_kindOf 1 := ⟨tb_393, tb_10, by decide +kernel⟩
abbrev M_X7_signOf : MD := (yX7_signOf, cX7_signOf, 2, some .int)
abbrev rm_X7_signOf : Room := { frames := 1, cells := 0, slots := 0, locals := 21 }
def w_X7_signOf_19 (K : Int → Hh → Prop) (a0 : Int) (s0 : Int) (h : Hh) : Prop := K s0 h
set_option maxRecDepth 100000 in
set_option maxHeartbeats 4000000 in
theorem t_X7_signOf_19 {G : Gx} {n0 : Int} {K : Int → Hh → Prop} {a0 : Int} (h0 : 0 ≤ a0)  (s0 : Int) (h : Hh) (hf : w_X7_signOf_19 K  a0 s0 h) : PW G M_X7_signOf rm_X7_signOf 0 0 [] n0 K 19 [] [vi s0] [] 0 0 h := by
  unfold w_X7_signOf_19 at hf
  exact p_iret dX7_signOf_19 rfl (by decide) (by decide) (fun _ h => absurd h List.not_mem_nil) hf
def w_X7_signOf (a0 x1 : Int) (h : Hh) (K : Int → Hh → Prop) : Prop := w_X7_hasTerm a0 x1 h (fun r1 h2 => if r1 = 0 then (w_X7_signOf_19 K  a0 (-2147483648) h2) else (((0 : Int) ≤ x1 ∧ (x1 : Int) < 5) ∧ (w_X7_signOf_19 K  a0 (h2 (a0 + 2) x1) h2)))
set_option maxRecDepth 100000 in
set_option maxHeartbeats 4000000 in
theorem t_X7_signOf {G : Gx} (a0 x1 : Int) (h : Hh) (K : Int → Hh → Prop) (h0 : 0 ≤ a0) (hf : w_X7_signOf a0 x1 h K) : CT G M_X7_signOf rm_X7_signOf 0 0 [] [vr 7 a0 0, vi x1] h K := by
  unfold w_X7_signOf at hf
  refine CT.of (ls0 := [(0, vr 7 a0 0), (1, vi x1)]) (plainFor_of_name (by decide +kernel)) (by decide +kernel) (Nat.le_of_ble_eq_true rfl) rfl rfl ?_
  refine p_aload_n dX7_signOf_0 rfl 0 rfl ?_
  refine p_iload_n dX7_signOf_1 rfl 1 rfl ?_
  refine p_callVi dX7_signOf_2 M_X7_hasTerm (Or.inr rfl) [vi x1] (t_X7_hasTerm _ _ _ _ h0 hf) ok_X7_hasTerm rfl (c := 7) (by decide) h0 rfl tb_394 ⟨tb_396, ts_13⟩ rfl (Nat.le_of_ble_eq_true rfl) ⟨rfl, rfl⟩ ⟨by decide, by decide⟩ ⟨by decide, by decide⟩ (fun r1 h2 hf => ?_)
  refine p_if_eq (tgt := 17) (q := r1 = 0) dX7_signOf_5 (by decide) Iff.rfl (fun hc => ?_) (fun hc => ?_)
  · replace hf := Eq.mp (if_pos hc) hf
    refine p_ldc (z := (-2147483648)) dX7_signOf_17 tb_398 (by decide) ?_
    refine p_sub (ls' := []) [] rfl ?_
    exact t_X7_signOf_19 h0  _ _ hf
  · replace hf := Eq.mp (if_neg hc) hf
    refine p_aload_n dX7_signOf_8 rfl 0 rfl ?_
    refine p_lay (c := 7) (tq := 100) (n := 5) dX7_signOf_9 3 2 tb_359 (by decide) (by decide) h0 (by decide) (by decide) (fun _ => rfl) (vr 100 (a0 + 2) 5) rfl ?_
    refine p_iload_n dX7_signOf_12 rfl 1 rfl ?_
    obtain ⟨c3, hf⟩ := hf
    refine p_iald dX7_signOf_13 (nnk h0 (by decide)) c3 ?_
    refine p_goto (tgt := 19) dX7_signOf_14 (by decide) ?_
    refine p_sub (ls' := []) [] rfl ?_
    exact t_X7_signOf_19 h0  _ _ hf
theorem ok_X7_signOf : mOK M_X7_signOf 1 := ⟨tb_402, tb_10, by decide +kernel⟩
abbrev M_X7_leastValue : MD := (yX7_leastValue, cX7_leastValue, 1, some .int)
abbrev rm_X7_leastValue : Room := { frames := 0, cells := 0, slots := 0, locals := 0 }
def w_X7_leastValue_19 (K : Int → Hh → Prop) (s0 : Int) (h : Hh) : Prop := K s0 h
set_option maxRecDepth 100000 in
set_option maxHeartbeats 4000000 in
theorem t_X7_leastValue_19 {G : Gx} {n0 : Int} {K : Int → Hh → Prop}  (s0 : Int) (h : Hh) (hf : w_X7_leastValue_19 K   s0 h) : PW G M_X7_leastValue rm_X7_leastValue 0 0 [] n0 K 19 [] [vi s0] [] 0 0 h := by
  unfold w_X7_leastValue_19 at hf
  exact p_iret dX7_leastValue_19 rfl (by decide) (by decide) (fun _ h => absurd h List.not_mem_nil) hf
def w_X7_leastValue (x0 : Int) (h : Hh) (K : Int → Hh → Prop) : Prop := if x0 ≠ 1 then (if x0 ≠ 2 then (w_X7_leastValue_19 K   (-999) h) else (w_X7_leastValue_19 K   1 h)) else (K 0 h)
set_option maxRecDepth 100000 in
set_option maxHeartbeats 4000000 in
theorem t_X7_leastValue {G : Gx} (x0 : Int) (h : Hh) (K : Int → Hh → Prop) (hf : w_X7_leastValue x0 h K) : CT G M_X7_leastValue rm_X7_leastValue 0 0 [] [vi x0] h K := by
  unfold w_X7_leastValue at hf
  refine CT.of (ls0 := [(0, vi x0)]) (plainFor_of_name (by decide +kernel)) (by decide +kernel) (Nat.le_of_ble_eq_true rfl) rfl rfl ?_
  refine p_iload_n dX7_leastValue_0 rfl 0 rfl ?_
  refine p_iconst dX7_leastValue_1 (by decide) ?_
  refine p_icmp_ne (tgt := 7) (q := x0 ≠ 1) dX7_leastValue_2 (by decide) Iff.rfl (fun hc => ?_) (fun hc => ?_)
  · replace hf := Eq.mp (if_pos hc) hf
    refine p_iload_n dX7_leastValue_7 rfl 0 rfl ?_
    refine p_iconst dX7_leastValue_8 (by decide) ?_
    refine p_icmp_ne (tgt := 16) (q := x0 ≠ 2) dX7_leastValue_9 (by decide) Iff.rfl (fun hc => ?_) (fun hc => ?_)
    · replace hf := Eq.mp (if_pos hc) hf
      refine p_sipush dX7_leastValue_16 (by decide) (by decide) ?_
      refine p_sub (ls' := []) [] rfl ?_
      exact t_X7_leastValue_19  _ _ hf
    · replace hf := Eq.mp (if_neg hc) hf
      refine p_iconst dX7_leastValue_12 (by decide) ?_
      refine p_goto (tgt := 19) dX7_leastValue_13 (by decide) ?_
      refine p_sub (ls' := []) [] rfl ?_
      exact t_X7_leastValue_19  _ _ hf
  · replace hf := Eq.mp (if_neg hc) hf
    refine p_iconst dX7_leastValue_5 (by decide) ?_
    exact p_iret dX7_leastValue_6 rfl (by decide) (by decide) (fun _ h => absurd h List.not_mem_nil) hf
theorem ok_X7_leastValue : mOK M_X7_leastValue 1 := ⟨tb_413, tb_10, by decide +kernel⟩
abbrev M_X7_greatestValue : MD := (yX7_greatestValue, cX7_greatestValue, 1, some .int)
abbrev rm_X7_greatestValue : Room := { frames := 0, cells := 0, slots := 0, locals := 0 }
def w_X7_greatestValue_13 (K : Int → Hh → Prop) (s0 : Int) (h : Hh) : Prop := K s0 h
set_option maxRecDepth 100000 in
set_option maxHeartbeats 4000000 in
theorem t_X7_greatestValue_13 {G : Gx} {n0 : Int} {K : Int → Hh → Prop}  (s0 : Int) (h : Hh) (hf : w_X7_greatestValue_13 K   s0 h) : PW G M_X7_greatestValue rm_X7_greatestValue 0 0 [] n0 K 13 [] [vi s0] [] 0 0 h := by
  unfold w_X7_greatestValue_13 at hf
  exact p_iret dX7_greatestValue_13 rfl (by decide) (by decide) (fun _ h => absurd h List.not_mem_nil) hf
def w_X7_greatestValue (x0 : Int) (h : Hh) (K : Int → Hh → Prop) : Prop := if x0 ≠ 1 then (w_X7_greatestValue_13 K   999 h) else (w_X7_greatestValue_13 K   99 h)
set_option maxRecDepth 100000 in
set_option maxHeartbeats 4000000 in
theorem t_X7_greatestValue {G : Gx} (x0 : Int) (h : Hh) (K : Int → Hh → Prop) (hf : w_X7_greatestValue x0 h K) : CT G M_X7_greatestValue rm_X7_greatestValue 0 0 [] [vi x0] h K := by
  unfold w_X7_greatestValue at hf
  refine CT.of (ls0 := [(0, vi x0)]) (plainFor_of_name (by decide +kernel)) (by decide +kernel) (Nat.le_of_ble_eq_true rfl) rfl rfl ?_
  refine p_iload_n dX7_greatestValue_0 rfl 0 rfl ?_
  refine p_iconst dX7_greatestValue_1 (by decide) ?_
  refine p_icmp_ne (tgt := 10) (q := x0 ≠ 1) dX7_greatestValue_2 (by decide) Iff.rfl (fun hc => ?_) (fun hc => ?_)
  · replace hf := Eq.mp (if_pos hc) hf
    refine p_sipush dX7_greatestValue_10 (by decide) (by decide) ?_
    refine p_sub (ls' := []) [] rfl ?_
    exact t_X7_greatestValue_13  _ _ hf
  · replace hf := Eq.mp (if_neg hc) hf
    refine p_bipush dX7_greatestValue_5 (by decide) (by decide) ?_
    refine p_goto (tgt := 13) dX7_greatestValue_7 (by decide) ?_
    refine p_sub (ls' := []) [] rfl ?_
    exact t_X7_greatestValue_13  _ _ hf
theorem ok_X7_greatestValue : mOK M_X7_greatestValue 1 := ⟨tb_416, tb_10, by decide +kernel⟩
abbrev M_X7_canRange : MD := (yX7_canRange, cX7_canRange, 7, some .boolean)
abbrev rm_X7_canRange : Room := { frames := 1, cells := 0, slots := 0, locals := 21 }
def w_X7_canRange_17 (K : Int → Hh → Prop) (a0 : Int) (h : Hh) : Prop := K 0 h
set_option maxRecDepth 100000 in
set_option maxHeartbeats 4000000 in
theorem t_X7_canRange_17 {G : Gx} {n0 : Int} {K : Int → Hh → Prop} {a0 : Int} (h0 : 0 ≤ a0)  (h : Hh) (hf : w_X7_canRange_17 K  a0  h) : PW G M_X7_canRange rm_X7_canRange 0 0 [] n0 K 17 [] [] [] 0 0 h := by
  unfold w_X7_canRange_17 at hf
  refine p_iconst dX7_canRange_17 (by decide) ?_
  exact p_zret dX7_canRange_18 rfl (by decide) (by decide) (fun _ h => absurd h List.not_mem_nil) (Or.inl rfl) hf
def w_X7_canRange_44 (K : Int → Hh → Prop) (a0 : Int) (h : Hh) : Prop := K 0 h
set_option maxRecDepth 100000 in
set_option maxHeartbeats 4000000 in
theorem t_X7_canRange_44 {G : Gx} {n0 : Int} {K : Int → Hh → Prop} {a0 : Int} (h0 : 0 ≤ a0)  (h : Hh) (hf : w_X7_canRange_44 K  a0  h) : PW G M_X7_canRange rm_X7_canRange 0 0 [] n0 K 44 [] [] [] 0 0 h := by
  unfold w_X7_canRange_44 at hf
  refine p_iconst dX7_canRange_44 (by decide) ?_
  exact p_zret dX7_canRange_45 rfl (by decide) (by decide) (fun _ h => absurd h List.not_mem_nil) (Or.inl rfl) hf
def w_X7_canRange_93 (K : Int → Hh → Prop) (a0 : Int) (s0 : Int) (h : Hh) : Prop := (s0 = 0 ∨ s0 = 1) ∧ (K s0 h)
set_option maxRecDepth 100000 in
set_option maxHeartbeats 4000000 in
theorem t_X7_canRange_93 {G : Gx} {n0 : Int} {K : Int → Hh → Prop} {a0 : Int} (h0 : 0 ≤ a0)  (s0 : Int) (h : Hh) (hf : w_X7_canRange_93 K  a0 s0 h) : PW G M_X7_canRange rm_X7_canRange 0 0 [] n0 K 93 [] [vi s0] [] 0 0 h := by
  unfold w_X7_canRange_93 at hf
  obtain ⟨c7, hf⟩ := hf
  exact p_zret dX7_canRange_93 rfl (by decide) (by decide) (fun _ h => absurd h List.not_mem_nil) c7 hf
def w_X7_canRange_92 (K : Int → Hh → Prop) (a0 : Int) (h : Hh) : Prop := w_X7_canRange_93 K  a0 0 h
set_option maxRecDepth 100000 in
set_option maxHeartbeats 4000000 in
theorem t_X7_canRange_92 {G : Gx} {n0 : Int} {K : Int → Hh → Prop} {a0 : Int} (h0 : 0 ≤ a0)  (h : Hh) (hf : w_X7_canRange_92 K  a0  h) : PW G M_X7_canRange rm_X7_canRange 0 0 [] n0 K 92 [] [] [] 0 0 h := by
  unfold w_X7_canRange_92 at hf
  refine p_iconst dX7_canRange_92 (by decide) ?_
  exact t_X7_canRange_93 h0  _ _ hf
def w_X7_canRange (a0 x1 x2 x3 x4 : Int) (h : Hh) (K : Int → Hh → Prop) : Prop := w_X7_hasTerm a0 x1 h (fun r1 h2 => if r1 = 0 then (w_X7_canRange_17 K  a0  h2) else (((0 : Int) ≤ x1 ∧ (x1 : Int) < 5) ∧ (if h2 (a0 + 3) x1 = 0 then (if x3 < 1 then (w_X7_canRange_44 K  a0  h2) else (if x3 > 500 then (w_X7_canRange_44 K  a0  h2) else (if x4 < 2 then (w_X7_canRange_44 K  a0  h2) else (if x4 ≤ 40 then (vb (w64 (x2 + (w64 (x3 * (w32 (x4 - 1)))))) fun z4 => w_X7_leastValue (h2 (a0 + 1) x1) h2 (fun r5 h6 => if x2 < r5 then (w_X7_canRange_92 K  a0  h6) else (w_X7_greatestValue (h6 (a0 + 1) x1) h6 (fun r8 h9 => if z4 > r8 then (w_X7_canRange_92 K  a0  h9) else (w_X7_canRange_93 K  a0 1 h9))))) else (w_X7_canRange_44 K  a0  h2))))) else (w_X7_canRange_17 K  a0  h2))))
set_option maxRecDepth 100000 in
set_option maxHeartbeats 4000000 in
theorem t_X7_canRange {G : Gx} (a0 x1 x2 x3 x4 : Int) (h : Hh) (K : Int → Hh → Prop) (h0 : 0 ≤ a0) (hf : w_X7_canRange a0 x1 x2 x3 x4 h K) : CT G M_X7_canRange rm_X7_canRange 0 0 [] [vr 7 a0 0, vi x1, vi x2, vi x3, vi x4] h K := by
  unfold w_X7_canRange at hf
  refine CT.of (ls0 := [(0, vr 7 a0 0), (1, vi x1), (2, vi x2), (3, vi x3), (4, vi x4)]) (plainFor_of_name (by decide +kernel)) (by decide +kernel) (Nat.le_of_ble_eq_true rfl) rfl rfl ?_
  refine p_aload_n dX7_canRange_0 rfl 0 rfl ?_
  refine p_iload_n dX7_canRange_1 rfl 1 rfl ?_
  refine p_callVi dX7_canRange_2 M_X7_hasTerm (Or.inr rfl) [vi x1] (t_X7_hasTerm _ _ _ _ h0 hf) ok_X7_hasTerm rfl (c := 7) (by decide) h0 rfl tb_394 ⟨tb_396, ts_13⟩ rfl (Nat.le_of_ble_eq_true rfl) ⟨rfl, rfl⟩ ⟨by decide, by decide⟩ ⟨by decide, by decide⟩ (fun r1 h2 hf => ?_)
  refine p_if_eq (tgt := 17) (q := r1 = 0) dX7_canRange_5 (by decide) Iff.rfl (fun hc => ?_) (fun hc => ?_)
  · replace hf := Eq.mp (if_pos hc) hf
    refine p_sub (ls' := []) [] rfl ?_
    exact t_X7_canRange_17 h0   _ hf
  · replace hf := Eq.mp (if_neg hc) hf
    refine p_aload_n dX7_canRange_8 rfl 0 rfl ?_
    refine p_lay (c := 7) (tq := 100) (n := 5) dX7_canRange_9 4 3 tb_360 (by decide) (by decide) h0 (by decide) (by decide) (fun _ => rfl) (vr 100 (a0 + 3) 5) rfl ?_
    refine p_iload_n dX7_canRange_12 rfl 1 rfl ?_
    obtain ⟨c3, hf⟩ := hf
    refine p_iald dX7_canRange_13 (nnk h0 (by decide)) c3 ?_
    refine p_if_eq (tgt := 19) (q := h2 (a0 + 3) x1 = 0) dX7_canRange_14 (by decide) Iff.rfl (fun hc => ?_) (fun hc => ?_)
    · replace hf := Eq.mp (if_pos hc) hf
      refine p_iload_n dX7_canRange_19 rfl 3 rfl ?_
      refine p_iconst dX7_canRange_20 (by decide) ?_
      refine p_icmp_lt (tgt := 44) (q := x3 < 1) dX7_canRange_21 (by decide) Iff.rfl (fun hc => ?_) (fun hc => ?_)
      · replace hf := Eq.mp (if_pos hc) hf
        refine p_sub (ls' := []) [] rfl ?_
        exact t_X7_canRange_44 h0   _ hf
      · replace hf := Eq.mp (if_neg hc) hf
        refine p_iload_n dX7_canRange_24 rfl 3 rfl ?_
        refine p_sipush dX7_canRange_25 (by decide) (by decide) ?_
        refine p_icmp_gt (tgt := 44) (q := x3 > 500) dX7_canRange_28 (by decide) Iff.rfl (fun hc => ?_) (fun hc => ?_)
        · replace hf := Eq.mp (if_pos hc) hf
          refine p_sub (ls' := []) [] rfl ?_
          exact t_X7_canRange_44 h0   _ hf
        · replace hf := Eq.mp (if_neg hc) hf
          refine p_iload dX7_canRange_31 4 rfl ?_
          refine p_iconst dX7_canRange_33 (by decide) ?_
          refine p_icmp_lt (tgt := 44) (q := x4 < 2) dX7_canRange_34 (by decide) Iff.rfl (fun hc => ?_) (fun hc => ?_)
          · replace hf := Eq.mp (if_pos hc) hf
            refine p_sub (ls' := []) [] rfl ?_
            exact t_X7_canRange_44 h0   _ hf
          · replace hf := Eq.mp (if_neg hc) hf
            refine p_iload dX7_canRange_37 4 rfl ?_
            refine p_bipush dX7_canRange_39 (by decide) (by decide) ?_
            refine p_icmp_le (tgt := 46) (q := x4 ≤ 40) dX7_canRange_41 (by decide) Iff.rfl (fun hc => ?_) (fun hc => ?_)
            · replace hf := Eq.mp (if_pos hc) hf
              refine p_iload_n dX7_canRange_46 rfl 2 rfl ?_
              refine p_i2l dX7_canRange_47 ?_
              refine p_iload_n dX7_canRange_48 rfl 3 rfl ?_
              refine p_i2l dX7_canRange_49 ?_
              refine p_iload dX7_canRange_50 4 rfl ?_
              refine p_iconst dX7_canRange_52 (by decide) ?_
              refine p_isub dX7_canRange_53 ?_
              refine p_i2l dX7_canRange_54 ?_
              refine p_lmul dX7_canRange_55 ?_
              refine p_ladd dX7_canRange_56 ?_
              refine p_lstore (ls' := [(5, vl (w64 (x2 + (w64 (x3 * (w32 (x4 - 1))))))), (0, vr 7 a0 0), (1, vi x1), (2, vi x2), (3, vi x3), (4, vi x4)]) dX7_canRange_57 (by decide) rfl ?_
              replace hf := vb_e hf
              generalize (w64 (x2 + (w64 (x3 * (w32 (x4 - 1)))))) = z4 at hf ⊢
              refine p_iload_n dX7_canRange_59 rfl 3 rfl ?_
              refine p_aload_n dX7_canRange_60 rfl 1 rfl ?_
              refine p_lay (c := 7) (tq := 100) (n := 5) dX7_canRange_61 2 1 tb_358 (by decide) (by decide) h0 (by decide) (by decide) (fun _ => rfl) (vr 100 (a0 + 1) 5) rfl ?_
              refine p_iload_n dX7_canRange_64 rfl 2 rfl ?_
              refine p_iald dX7_canRange_65 (nnk h0 (by decide)) c3 ?_
              refine p_callSi dX7_canRange_66 M_X7_leastValue (Or.inl rfl) [vi (h2 (a0 + 1) x1)] (t_X7_leastValue _ _ _ hf) ok_X7_leastValue rfl tb_411 tb_412 rfl (Nat.le_of_ble_eq_true rfl) ⟨rfl, rfl⟩ ⟨by decide, by decide⟩ ⟨by decide, by decide⟩ (fun r5 h6 hf => ?_)
              refine p_icmp_lt (tgt := 92) (q := x2 < r5) dX7_canRange_69 (by decide) Iff.rfl (fun hc => ?_) (fun hc => ?_)
              · replace hf := Eq.mp (if_pos hc) hf
                refine p_sub (ls' := []) [] rfl ?_
                exact t_X7_canRange_92 h0   _ hf
              · replace hf := Eq.mp (if_neg hc) hf
                refine p_lload dX7_canRange_72 0 rfl ?_
                refine p_aload_n dX7_canRange_74 rfl 1 rfl ?_
                refine p_lay (c := 7) (tq := 100) (n := 5) dX7_canRange_75 2 1 tb_358 (by decide) (by decide) h0 (by decide) (by decide) (fun _ => rfl) (vr 100 (a0 + 1) 5) rfl ?_
                refine p_iload_n dX7_canRange_78 rfl 2 rfl ?_
                refine p_iald dX7_canRange_79 (nnk h0 (by decide)) c3 ?_
                refine p_callSi dX7_canRange_80 M_X7_greatestValue (Or.inl rfl) [vi (h6 (a0 + 1) x1)] (t_X7_greatestValue _ _ _ hf) ok_X7_greatestValue rfl tb_414 tb_415 rfl (Nat.le_of_ble_eq_true rfl) ⟨rfl, rfl⟩ ⟨by decide, by decide⟩ ⟨by decide, by decide⟩ (fun r8 h9 hf => ?_)
                refine p_i2l dX7_canRange_83 ?_
                refine p_lcmp (z := (if z4 < r8 then (-1) else if z4 = r8 then 0 else 1)) dX7_canRange_84 rfl ?_
                refine p_if_gt (tgt := 92) (q := z4 > r8) dX7_canRange_85 (by decide) (lc_gt z4 r8) (fun hc => ?_) (fun hc => ?_)
                · replace hf := Eq.mp (if_pos hc) hf
                  refine p_sub (ls' := []) [] rfl ?_
                  exact t_X7_canRange_92 h0   _ hf
                · replace hf := Eq.mp (if_neg hc) hf
                  refine p_iconst dX7_canRange_88 (by decide) ?_
                  refine p_goto (tgt := 93) dX7_canRange_89 (by decide) ?_
                  refine p_sub (ls' := []) [] rfl ?_
                  exact t_X7_canRange_93 h0  _ _ hf
            · replace hf := Eq.mp (if_neg hc) hf
              refine p_sub (ls' := []) [] rfl ?_
              exact t_X7_canRange_44 h0   _ hf
    · replace hf := Eq.mp (if_neg hc) hf
      refine p_sub (ls' := []) [] rfl ?_
      exact t_X7_canRange_17 h0   _ hf
theorem ok_X7_canRange : mOK M_X7_canRange 4 := ⟨tb_410, tb_10, by decide +kernel⟩
abbrev M_X7_numberOfValue : MD := (yX7_numberOfValue, cX7_numberOfValue, 2, some .int)
abbrev rm_X7_numberOfValue : Room := { frames := 2, cells := 0, slots := 0, locals := 48 }
def w_X7_numberOfValue_27 (K : Int → Hh → Prop) (s0 : Int) (h : Hh) : Prop := K s0 h
set_option maxRecDepth 100000 in
set_option maxHeartbeats 4000000 in
theorem t_X7_numberOfValue_27 {G : Gx} {n0 : Int} {K : Int → Hh → Prop}  (s0 : Int) (h : Hh) (hf : w_X7_numberOfValue_27 K   s0 h) : PW G M_X7_numberOfValue rm_X7_numberOfValue 0 0 [] n0 K 27 [] [vi s0] [] 0 0 h := by
  unfold w_X7_numberOfValue_27 at hf
  exact p_iret dX7_numberOfValue_27 rfl (by decide) (by decide) (fun _ h => absurd h List.not_mem_nil) hf
def w_X7_numberOfValue (x0 x1 : Int) (h : Hh) (K : Int → Hh → Prop) : Prop := if x0 ≠ 1 then (if x0 ≠ 2 then (w_X7_numberOfValue_27 K   x1 h) else (w_X10_nearest 10000 x1 h (fun r1 h2 => w_X7_numberOfValue_27 K   (w32 r1) h2))) else (K (w32 (x1 * x1)) h)
set_option maxRecDepth 100000 in
set_option maxHeartbeats 4000000 in
theorem t_X7_numberOfValue {G : Gx} (x0 x1 : Int) (h : Hh) (K : Int → Hh → Prop) (hf : w_X7_numberOfValue x0 x1 h K) : CT G M_X7_numberOfValue rm_X7_numberOfValue 0 0 [] [vi x0, vi x1] h K := by
  unfold w_X7_numberOfValue at hf
  refine CT.of (ls0 := [(0, vi x0), (1, vi x1)]) (plainFor_of_name (by decide +kernel)) (by decide +kernel) (Nat.le_of_ble_eq_true rfl) rfl rfl ?_
  refine p_iload_n dX7_numberOfValue_0 rfl 0 rfl ?_
  refine p_iconst dX7_numberOfValue_1 (by decide) ?_
  refine p_icmp_ne (tgt := 9) (q := x0 ≠ 1) dX7_numberOfValue_2 (by decide) Iff.rfl (fun hc => ?_) (fun hc => ?_)
  · replace hf := Eq.mp (if_pos hc) hf
    refine p_iload_n dX7_numberOfValue_9 rfl 0 rfl ?_
    refine p_iconst dX7_numberOfValue_10 (by decide) ?_
    refine p_icmp_ne (tgt := 26) (q := x0 ≠ 2) dX7_numberOfValue_11 (by decide) Iff.rfl (fun hc => ?_) (fun hc => ?_)
    · replace hf := Eq.mp (if_pos hc) hf
      refine p_iload_n dX7_numberOfValue_26 rfl 1 rfl ?_
      refine p_sub (ls' := []) [] rfl ?_
      exact t_X7_numberOfValue_27  _ _ hf
    · replace hf := Eq.mp (if_neg hc) hf
      refine p_ldc2 (z := 10000) dX7_numberOfValue_14 tb_425 (by decide) ?_
      refine p_iload_n dX7_numberOfValue_17 rfl 1 rfl ?_
      refine p_i2l dX7_numberOfValue_18 ?_
      refine p_callSNl dX7_numberOfValue_19 M_X10_nearest rfl [vl 10000, vl x1] (t_X10_nearest _ _ _ _ hf) ok_X10_nearest rfl tb_426 tb_427 rfl (Nat.le_of_ble_eq_true rfl) ⟨rfl, rfl⟩ ⟨by decide, by decide⟩ ⟨by decide, by decide⟩ (fun r1 h2 hf => ?_)
      refine p_l2i dX7_numberOfValue_22 ?_
      refine p_goto (tgt := 27) dX7_numberOfValue_23 (by decide) ?_
      refine p_sub (ls' := []) [] rfl ?_
      exact t_X7_numberOfValue_27  _ _ hf
  · replace hf := Eq.mp (if_neg hc) hf
    refine p_iload_n dX7_numberOfValue_5 rfl 1 rfl ?_
    refine p_iload_n dX7_numberOfValue_6 rfl 1 rfl ?_
    refine p_imul dX7_numberOfValue_7 ?_
    exact p_iret dX7_numberOfValue_8 rfl (by decide) (by decide) (fun _ h => absurd h List.not_mem_nil) hf
theorem ok_X7_numberOfValue : mOK M_X7_numberOfValue 2 := ⟨tb_424, tb_10, by decide +kernel⟩
abbrev M_X7_putOnScale : MD := (yX7_putOnScale, cX7_putOnScale, 4, none)
abbrev rm_X7_putOnScale : Room := { frames := 0, cells := 0, slots := 0, locals := 0 }
def w_X7_putOnScale_2 (K : Int → Hh → Prop) (X26 : Int → Int → Hh → Prop) (a0 : Int) : Nat → Int → Int → Hh → Prop
  | 0, _, _, _ => False
  | n + 1, v1, v2, h => if v2 ≥ h a0 7 then (X26 v1 v2 h) else (((0 : Int) ≤ v2 ∧ (v2 : Int) < 40) ∧ (if h (a0 + 10) v2 ≥ v1 then (X26 v1 v2 h) else (vb (w32 (v2 + 1)) fun z2 => w_X7_putOnScale_2 K X26 a0 n v1 z2 h)))
set_option maxRecDepth 100000 in
set_option maxHeartbeats 4000000 in
theorem t_X7_putOnScale_2 {G : Gx} {n0 : Int} {K : Int → Hh → Prop} {X26 : Int → Int → Hh → Prop} {a0 : Int} (h0 : 0 ≤ a0) (hX26 : ∀ (v1 v2 : Int) (h : Hh), X26 v1 v2 h → PW G M_X7_putOnScale rm_X7_putOnScale 0 0 [] n0 K 26 [(0, vr 7 a0 0), (1, vi v1), (2, vi v2)] [] [] 0 0 h) : ∀ (n : Nat) (v1 v2 : Int) (h : Hh), w_X7_putOnScale_2 K X26 a0 n v1 v2 h → PW G M_X7_putOnScale rm_X7_putOnScale 0 0 [] n0 K 2 [(0, vr 7 a0 0), (1, vi v1), (2, vi v2)] [] [] 0 0 h := by
  intro n
  induction n with
  | zero =>
    intro v1 v2 h hf
    rw [w_X7_putOnScale_2] at hf
    exact hf.elim
  | succ n ih =>
    intro v1 v2 h hf
    rw [w_X7_putOnScale_2] at hf
    refine p_iload_n dX7_putOnScale_2 rfl 2 rfl ?_
    refine p_aload_n dX7_putOnScale_3 rfl 0 rfl ?_
    refine p_get (c := 7) (vi (h a0 7)) dX7_putOnScale_4 7 tb_363 (by decide) (by decide) (Or.inl rfl) h0 rfl rfl ?_
    refine p_icmp_ge (tgt := 26) (q := v2 ≥ h a0 7) dX7_putOnScale_7 (by decide) Iff.rfl (fun hc => ?_) (fun hc => ?_)
    · replace hf := Eq.mp (if_pos hc) hf
      exact hX26 _ _ _ hf
    · replace hf := Eq.mp (if_neg hc) hf
      refine p_aload_n dX7_putOnScale_10 rfl 0 rfl ?_
      refine p_lay (c := 7) (tq := 100) (n := 40) dX7_putOnScale_11 6 10 tb_362 (by decide) (by decide) h0 (by decide) (by decide) (fun _ => rfl) (vr 100 (a0 + 10) 40) rfl ?_
      refine p_iload_n dX7_putOnScale_14 rfl 2 rfl ?_
      obtain ⟨c1, hf⟩ := hf
      refine p_iald dX7_putOnScale_15 (nnk h0 (by decide)) c1 ?_
      refine p_iload_n dX7_putOnScale_16 rfl 1 rfl ?_
      refine p_icmp_ge (tgt := 26) (q := h (a0 + 10) v2 ≥ v1) dX7_putOnScale_17 (by decide) Iff.rfl (fun hc => ?_) (fun hc => ?_)
      · replace hf := Eq.mp (if_pos hc) hf
        exact hX26 _ _ _ hf
      · replace hf := Eq.mp (if_neg hc) hf
        refine p_iinc (ls' := [(2, vi (w32 (v2 + 1))), (0, vr 7 a0 0), (1, vi v1)]) dX7_putOnScale_20 2 rfl (by decide) rfl ?_
        replace hf := vb_e hf
        generalize w32 (v2 + 1) = z2 at hf ⊢
        refine p_goto (tgt := 2) dX7_putOnScale_23 (by decide) ?_
        refine p_sub (ls' := [(0, vr 7 a0 0), (1, vi v1), (2, vi z2)]) [1, 2, 0] rfl ?_
        exact ih _ _ _ hf
def w_X7_putOnScale_56 (K : Int → Hh → Prop) (a0 : Int) (h : Hh) : Prop := K 0 h
set_option maxRecDepth 100000 in
set_option maxHeartbeats 4000000 in
theorem t_X7_putOnScale_56 {G : Gx} {n0 : Int} {K : Int → Hh → Prop} {a0 : Int} (h0 : 0 ≤ a0)  (h : Hh) (hf : w_X7_putOnScale_56 K  a0  h) : PW G M_X7_putOnScale rm_X7_putOnScale 0 0 [] n0 K 56 [] [] [] 0 0 h := by
  unfold w_X7_putOnScale_56 at hf
  exact p_vret dX7_putOnScale_56 rfl (by decide) (by decide) (fun _ h => absurd h List.not_mem_nil) hf
def w_X7_putOnScale_62 (K : Int → Hh → Prop) (X87 : Int → Int → Hh → Prop) (a0 : Int) : Nat → Int → Int → Int → Hh → Prop
  | 0, _, _, _, _ => False
  | n + 1, v1, v2, v3, h => if v3 ≤ v2 then (X87 v1 v2 h) else (((0 : Int) ≤ w32 (v3 - 1) ∧ (w32 (v3 - 1) : Int) < 40) ∧ (((0 : Int) ≤ v3 ∧ (v3 : Int) < 40) ∧ (hb (up h (a0 + 10) v3 (h (a0 + 10) (w32 (v3 - 1)))) fun h9 => vb (w32 (v3 + (-1))) fun z10 => w_X7_putOnScale_62 K X87 a0 n v1 v2 z10 h9)))
set_option maxRecDepth 100000 in
set_option maxHeartbeats 4000000 in
theorem t_X7_putOnScale_62 {G : Gx} {n0 : Int} {K : Int → Hh → Prop} {X87 : Int → Int → Hh → Prop} {a0 : Int} (h0 : 0 ≤ a0) (hX87 : ∀ (v1 v2 : Int) (h : Hh), X87 v1 v2 h → PW G M_X7_putOnScale rm_X7_putOnScale 0 0 [] n0 K 87 [(0, vr 7 a0 0), (1, vi v1), (2, vi v2)] [] [] 0 0 h) : ∀ (n : Nat) (v1 v2 v3 : Int) (h : Hh), w_X7_putOnScale_62 K X87 a0 n v1 v2 v3 h → PW G M_X7_putOnScale rm_X7_putOnScale 0 0 [] n0 K 62 [(0, vr 7 a0 0), (1, vi v1), (2, vi v2), (3, vi v3)] [] [] 0 0 h := by
  intro n
  induction n with
  | zero =>
    intro v1 v2 v3 h hf
    rw [w_X7_putOnScale_62] at hf
    exact hf.elim
  | succ n ih =>
    intro v1 v2 v3 h hf
    rw [w_X7_putOnScale_62] at hf
    refine p_iload_n dX7_putOnScale_62 rfl 3 rfl ?_
    refine p_iload_n dX7_putOnScale_63 rfl 2 rfl ?_
    refine p_icmp_le (tgt := 87) (q := v3 ≤ v2) dX7_putOnScale_64 (by decide) Iff.rfl (fun hc => ?_) (fun hc => ?_)
    · replace hf := Eq.mp (if_pos hc) hf
      refine p_sub (ls' := [(0, vr 7 a0 0), (1, vi v1), (2, vi v2)]) [0, 1, 2] rfl ?_
      exact hX87 _ _ _ hf
    · replace hf := Eq.mp (if_neg hc) hf
      refine p_aload_n dX7_putOnScale_67 rfl 0 rfl ?_
      refine p_lay (c := 7) (tq := 100) (n := 40) dX7_putOnScale_68 6 10 tb_362 (by decide) (by decide) h0 (by decide) (by decide) (fun _ => rfl) (vr 100 (a0 + 10) 40) rfl ?_
      refine p_iload_n dX7_putOnScale_71 rfl 3 rfl ?_
      refine p_aload_n dX7_putOnScale_72 rfl 0 rfl ?_
      refine p_lay (c := 7) (tq := 100) (n := 40) dX7_putOnScale_73 6 10 tb_362 (by decide) (by decide) h0 (by decide) (by decide) (fun _ => rfl) (vr 100 (a0 + 10) 40) rfl ?_
      refine p_iload_n dX7_putOnScale_76 rfl 3 rfl ?_
      refine p_iconst dX7_putOnScale_77 (by decide) ?_
      refine p_isub dX7_putOnScale_78 ?_
      obtain ⟨c7, hf⟩ := hf
      refine p_iald dX7_putOnScale_79 (nnk h0 (by decide)) c7 ?_
      obtain ⟨c8, hf⟩ := hf
      refine p_iast dX7_putOnScale_80 (nnk h0 (by decide)) c8 ?_
      replace hf := hb_e hf
      generalize up h (a0 + 10) v3 (h (a0 + 10) (w32 (v3 - 1))) = h9 at hf ⊢
      refine p_iinc (ls' := [(3, vi (w32 (v3 + (-1)))), (0, vr 7 a0 0), (1, vi v1), (2, vi v2)]) dX7_putOnScale_81 3 rfl (by decide) rfl ?_
      replace hf := vb_e hf
      generalize w32 (v3 + (-1)) = z10 at hf ⊢
      refine p_goto (tgt := 62) dX7_putOnScale_84 (by decide) ?_
      refine p_sub (ls' := [(0, vr 7 a0 0), (1, vi v1), (2, vi v2), (3, vi z10)]) [1, 2, 3, 0] rfl ?_
      exact ih _ _ _ _ hf
def w_X7_putOnScale_57 (K : Int → Hh → Prop) (a0 : Int) (v1 v2 : Int) (h : Hh) : Prop := vb (h a0 7) fun z6 => w_X7_putOnScale_62 K (fun u12 u13 h11 => ((0 : Int) ≤ u13 ∧ (u13 : Int) < 40) ∧ (hb (up h11 (a0 + 10) u13 u12) fun h15 => hb (up h15 a0 7 (w32 ((h15 a0 7) + 1))) fun h16 => K 0 h16)) a0 NF v1 v2 z6 h
set_option maxRecDepth 100000 in
set_option maxHeartbeats 4000000 in
theorem t_X7_putOnScale_57 {G : Gx} {n0 : Int} {K : Int → Hh → Prop} {a0 : Int} (h0 : 0 ≤ a0)  (v1 v2 : Int) (h : Hh) (hf : w_X7_putOnScale_57 K  a0 v1 v2 h) : PW G M_X7_putOnScale rm_X7_putOnScale 0 0 [] n0 K 57 [(0, vr 7 a0 0), (1, vi v1), (2, vi v2)] [] [] 0 0 h := by
  unfold w_X7_putOnScale_57 at hf
  refine p_aload_n dX7_putOnScale_57 rfl 0 rfl ?_
  refine p_get (c := 7) (vi (h a0 7)) dX7_putOnScale_58 7 tb_363 (by decide) (by decide) (Or.inl rfl) h0 rfl rfl ?_
  refine p_istore_n (ls' := [(3, vi (h a0 7)), (0, vr 7 a0 0), (1, vi v1), (2, vi v2)]) dX7_putOnScale_61 rfl (by decide) rfl ?_
  replace hf := vb_e hf
  generalize (h a0 7) = z6 at hf ⊢
  refine p_sub (ls' := [(0, vr 7 a0 0), (1, vi v1), (2, vi v2), (3, vi z6)]) [1, 2, 3, 0] rfl ?_
  refine t_X7_putOnScale_62 h0 ?_ NF _ _ _ _ hf
  · intro u12 u13 h11 hf
    refine p_aload_n dX7_putOnScale_87 rfl 0 rfl ?_
    refine p_lay (c := 7) (tq := 100) (n := 40) dX7_putOnScale_88 6 10 tb_362 (by decide) (by decide) h0 (by decide) (by decide) (fun _ => rfl) (vr 100 (a0 + 10) 40) rfl ?_
    refine p_iload_n dX7_putOnScale_91 rfl 2 rfl ?_
    refine p_iload_n dX7_putOnScale_92 rfl 1 rfl ?_
    obtain ⟨c14, hf⟩ := hf
    refine p_iast dX7_putOnScale_93 (nnk h0 (by decide)) c14 ?_
    replace hf := hb_e hf
    generalize up h11 (a0 + 10) u13 u12 = h15 at hf ⊢
    refine p_aload_n dX7_putOnScale_94 rfl 0 rfl ?_
    refine p_dup dX7_putOnScale_95 (fun _ q => by cases q) ?_
    refine p_get (c := 7) (vi (h15 a0 7)) dX7_putOnScale_96 7 tb_363 (by decide) (by decide) (Or.inl rfl) h0 rfl rfl ?_
    refine p_iconst dX7_putOnScale_99 (by decide) ?_
    refine p_iadd dX7_putOnScale_100 ?_
    refine p_puti (c := 7) dX7_putOnScale_101 7 tb_363 (by decide) (by decide) (Or.inl rfl) h0 rfl rfl (fun _ => by decide) (up h15 a0 7 (w32 ((h15 a0 7) + 1))) rfl ?_
    replace hf := hb_e hf
    generalize up h15 a0 7 (w32 ((h15 a0 7) + 1)) = h16 at hf ⊢
    exact p_vret dX7_putOnScale_104 rfl (by decide) (by decide) (fun _ h => absurd h List.not_mem_nil) hf
def w_X7_putOnScale_26 (K : Int → Hh → Prop) (a0 : Int) (v1 v2 : Int) (h : Hh) : Prop := if h a0 7 ≥ 40 then (w_X7_putOnScale_56 K  a0  h) else (if v2 ≥ h a0 7 then (w_X7_putOnScale_57 K  a0 v1 v2 h) else (((0 : Int) ≤ v2 ∧ (v2 : Int) < 40) ∧ (if h (a0 + 10) v2 ≠ v1 then (w_X7_putOnScale_57 K  a0 v1 v2 h) else (w_X7_putOnScale_56 K  a0  h))))
set_option maxRecDepth 100000 in
set_option maxHeartbeats 4000000 in
theorem t_X7_putOnScale_26 {G : Gx} {n0 : Int} {K : Int → Hh → Prop} {a0 : Int} (h0 : 0 ≤ a0)  (v1 v2 : Int) (h : Hh) (hf : w_X7_putOnScale_26 K  a0 v1 v2 h) : PW G M_X7_putOnScale rm_X7_putOnScale 0 0 [] n0 K 26 [(0, vr 7 a0 0), (1, vi v1), (2, vi v2)] [] [] 0 0 h := by
  unfold w_X7_putOnScale_26 at hf
  refine p_aload_n dX7_putOnScale_26 rfl 0 rfl ?_
  refine p_get (c := 7) (vi (h a0 7)) dX7_putOnScale_27 7 tb_363 (by decide) (by decide) (Or.inl rfl) h0 rfl rfl ?_
  refine p_aload_n dX7_putOnScale_30 rfl 0 rfl ?_
  refine p_lay (c := 7) (tq := 100) (n := 40) dX7_putOnScale_31 6 10 tb_362 (by decide) (by decide) h0 (by decide) (by decide) (fun _ => rfl) (vr 100 (a0 + 10) 40) rfl ?_
  refine p_alen dX7_putOnScale_34 (by decide) (nnk h0 (by decide)) ?_
  refine p_icmp_ge (tgt := 56) (q := h a0 7 ≥ 40) dX7_putOnScale_35 (by decide) Iff.rfl (fun hc => ?_) (fun hc => ?_)
  · replace hf := Eq.mp (if_pos hc) hf
    refine p_sub (ls' := []) [] rfl ?_
    exact t_X7_putOnScale_56 h0   _ hf
  · replace hf := Eq.mp (if_neg hc) hf
    refine p_iload_n dX7_putOnScale_38 rfl 2 rfl ?_
    refine p_aload_n dX7_putOnScale_39 rfl 0 rfl ?_
    refine p_get (c := 7) (vi (h a0 7)) dX7_putOnScale_40 7 tb_363 (by decide) (by decide) (Or.inl rfl) h0 rfl rfl ?_
    refine p_icmp_ge (tgt := 57) (q := v2 ≥ h a0 7) dX7_putOnScale_43 (by decide) Iff.rfl (fun hc => ?_) (fun hc => ?_)
    · replace hf := Eq.mp (if_pos hc) hf
      exact t_X7_putOnScale_57 h0  _ _ _ hf
    · replace hf := Eq.mp (if_neg hc) hf
      refine p_aload_n dX7_putOnScale_46 rfl 0 rfl ?_
      refine p_lay (c := 7) (tq := 100) (n := 40) dX7_putOnScale_47 6 10 tb_362 (by decide) (by decide) h0 (by decide) (by decide) (fun _ => rfl) (vr 100 (a0 + 10) 40) rfl ?_
      refine p_iload_n dX7_putOnScale_50 rfl 2 rfl ?_
      obtain ⟨c17, hf⟩ := hf
      refine p_iald dX7_putOnScale_51 (nnk h0 (by decide)) c17 ?_
      refine p_iload_n dX7_putOnScale_52 rfl 1 rfl ?_
      refine p_icmp_ne (tgt := 57) (q := h (a0 + 10) v2 ≠ v1) dX7_putOnScale_53 (by decide) Iff.rfl (fun hc => ?_) (fun hc => ?_)
      · replace hf := Eq.mp (if_pos hc) hf
        exact t_X7_putOnScale_57 h0  _ _ _ hf
      · replace hf := Eq.mp (if_neg hc) hf
        refine p_sub (ls' := []) [] rfl ?_
        exact t_X7_putOnScale_56 h0   _ hf
def w_X7_putOnScale (a0 x1 : Int) (h : Hh) (K : Int → Hh → Prop) : Prop := w_X7_putOnScale_2 K (fun u4 u5 h3 => w_X7_putOnScale_26 K  a0 u4 u5 h3) a0 NF x1 0 h
set_option maxRecDepth 100000 in
set_option maxHeartbeats 4000000 in
theorem t_X7_putOnScale {G : Gx} (a0 x1 : Int) (h : Hh) (K : Int → Hh → Prop) (h0 : 0 ≤ a0) (hf : w_X7_putOnScale a0 x1 h K) : CT G M_X7_putOnScale rm_X7_putOnScale 0 0 [] [vr 7 a0 0, vi x1] h K := by
  unfold w_X7_putOnScale at hf
  refine CT.of (ls0 := [(0, vr 7 a0 0), (1, vi x1)]) (plainFor_of_name (by decide +kernel)) (by decide +kernel) (Nat.le_of_ble_eq_true rfl) rfl rfl ?_
  refine p_iconst dX7_putOnScale_0 (by decide) ?_
  refine p_istore_n (ls' := [(2, vi 0), (0, vr 7 a0 0), (1, vi x1)]) dX7_putOnScale_1 rfl (by decide) rfl ?_
  refine p_sub (ls' := [(0, vr 7 a0 0), (1, vi x1), (2, vi 0)]) [1, 2, 0] rfl ?_
  refine t_X7_putOnScale_2 h0 ?_ NF _ _ _ hf
  · intro u4 u5 h3 hf
    exact t_X7_putOnScale_26 h0  _ _ _ hf
theorem ok_X7_putOnScale : mOK M_X7_putOnScale 1 := ⟨tb_436, tb_10, by decide +kernel⟩
abbrev M_X7_putRange : MD := (yX7_putRange, cX7_putRange, 6, none)
abbrev rm_X7_putRange : Room := { frames := 3, cells := 0, slots := 0, locals := 69 }
def w_X7_putRange_64 (K : Int → Hh → Prop) (B : Int → Int → Int → Int → Int → Hh → Prop) (a0 : Int) (v1 v2 v3 v4 v5 : Int) (h : Hh) : Prop := vb (w32 (v5 + 1)) fun z10 => B v1 v2 v3 v4 z10 h
set_option maxRecDepth 100000 in
set_option maxHeartbeats 4000000 in
theorem t_X7_putRange_64 {G : Gx} {n0 : Int} {K : Int → Hh → Prop} {B : Int → Int → Int → Int → Int → Hh → Prop} {a0 : Int} (h0 : 0 ≤ a0) (hB : ∀ (v1 v2 v3 v4 v5 : Int) (h : Hh), B v1 v2 v3 v4 v5 h → PW G M_X7_putRange rm_X7_putRange 0 0 [] n0 K 16 [(0, vr 7 a0 0), (1, vi v1), (2, vi v2), (3, vi v3), (4, vi v4), (5, vi v5)] [] [] 0 0 h)  (v1 v2 v3 v4 v5 : Int) (h : Hh) (hf : w_X7_putRange_64 K B a0 v1 v2 v3 v4 v5 h) : PW G M_X7_putRange rm_X7_putRange 0 0 [] n0 K 64 [(0, vr 7 a0 0), (1, vi v1), (2, vi v2), (3, vi v3), (4, vi v4), (5, vi v5)] [] [] 0 0 h := by
  unfold w_X7_putRange_64 at hf
  refine p_iinc (ls' := [(5, vi (w32 (v5 + 1))), (0, vr 7 a0 0), (1, vi v1), (2, vi v2), (3, vi v3), (4, vi v4)]) dX7_putRange_64 5 rfl (by decide) rfl ?_
  replace hf := vb_e hf
  generalize w32 (v5 + 1) = z10 at hf ⊢
  refine p_goto (tgt := 16) dX7_putRange_67 (by decide) ?_
  refine p_sub (ls' := [(0, vr 7 a0 0), (1, vi v1), (2, vi v2), (3, vi v3), (4, vi v4), (5, vi z10)]) [1, 2, 3, 4, 5, 0] rfl ?_
  exact hB _ _ _ _ _ _ hf
def w_X7_putRange_16 (K : Int → Hh → Prop) (a0 : Int) : Nat → Int → Int → Int → Int → Int → Hh → Prop
  | 0, _, _, _, _, _, _ => False
  | n + 1, v1, v2, v3, v4, v5, h => if v5 ≥ v4 then (((0 : Int) ≤ v1 ∧ (v1 : Int) < 5) ∧ (hb (up h (a0 + 3) v1 v4) fun h4 => K 0 h4)) else (((0 : Int) ≤ v1 ∧ (v1 : Int) < 5) ∧ (w_X7_numberOfValue (h (a0 + 1) v1) (w32 (v2 + (w32 (v3 * v5)))) h (fun r6 h7 => ((0 : Int) ≤ v5 ∧ (v5 : Int) < 40) ∧ (hb (up h7 (a0 + 4 + 1 + v1) v5 r6) fun h9 => if v1 ≠ 0 then (w_X7_putRange_64 K (w_X7_putRange_16 K  a0 n) a0 v1 v2 v3 v4 v5 h9) else (w_X7_putOnScale a0 (h9 (a0 + 4 + 1 + v1) v5) h9 (fun _ h11 => w_X7_putRange_64 K (w_X7_putRange_16 K  a0 n) a0 v1 v2 v3 v4 v5 h11))))))
set_option maxRecDepth 100000 in
set_option maxHeartbeats 4000000 in
theorem t_X7_putRange_16 {G : Gx} {n0 : Int} {K : Int → Hh → Prop} {a0 : Int} (h0 : 0 ≤ a0) : ∀ (n : Nat) (v1 v2 v3 v4 v5 : Int) (h : Hh), w_X7_putRange_16 K  a0 n v1 v2 v3 v4 v5 h → PW G M_X7_putRange rm_X7_putRange 0 0 [] n0 K 16 [(0, vr 7 a0 0), (1, vi v1), (2, vi v2), (3, vi v3), (4, vi v4), (5, vi v5)] [] [] 0 0 h := by
  intro n
  induction n with
  | zero =>
    intro v1 v2 v3 v4 v5 h hf
    rw [w_X7_putRange_16] at hf
    exact hf.elim
  | succ n ih =>
    intro v1 v2 v3 v4 v5 h hf
    rw [w_X7_putRange_16] at hf
    refine p_iload dX7_putRange_16 5 rfl ?_
    refine p_iload dX7_putRange_18 4 rfl ?_
    refine p_icmp_ge (tgt := 70) (q := v5 ≥ v4) dX7_putRange_20 (by decide) Iff.rfl (fun hc => ?_) (fun hc => ?_)
    · replace hf := Eq.mp (if_pos hc) hf
      refine p_aload_n dX7_putRange_70 rfl 0 rfl ?_
      refine p_lay (c := 7) (tq := 100) (n := 5) dX7_putRange_71 4 3 tb_360 (by decide) (by decide) h0 (by decide) (by decide) (fun _ => rfl) (vr 100 (a0 + 3) 5) rfl ?_
      refine p_iload_n dX7_putRange_74 rfl 1 rfl ?_
      refine p_iload dX7_putRange_75 4 rfl ?_
      obtain ⟨c3, hf⟩ := hf
      refine p_iast dX7_putRange_77 (nnk h0 (by decide)) c3 ?_
      replace hf := hb_e hf
      generalize up h (a0 + 3) v1 v4 = h4 at hf ⊢
      exact p_vret dX7_putRange_78 rfl (by decide) (by decide) (fun _ h => absurd h List.not_mem_nil) hf
    · replace hf := Eq.mp (if_neg hc) hf
      refine p_aload_n dX7_putRange_23 rfl 0 rfl ?_
      refine p_lay (c := 7) (tq := 105) (n := 5) dX7_putRange_24 5 4 tb_361 (by decide) (by decide) h0 (by decide) (by decide) (fun _ => rfl) (vr 105 (a0 + 4) 5) rfl ?_
      refine p_iload_n dX7_putRange_27 rfl 1 rfl ?_
      obtain ⟨c5, hf⟩ := hf
      refine p_aaldI dX7_putRange_28 (nnk h0 (by decide)) c5 ?_
      refine p_iload dX7_putRange_29 5 rfl ?_
      refine p_aload_n dX7_putRange_31 rfl 0 rfl ?_
      refine p_lay (c := 7) (tq := 100) (n := 5) dX7_putRange_32 2 1 tb_358 (by decide) (by decide) h0 (by decide) (by decide) (fun _ => rfl) (vr 100 (a0 + 1) 5) rfl ?_
      refine p_iload_n dX7_putRange_35 rfl 1 rfl ?_
      refine p_iald dX7_putRange_36 (nnk h0 (by decide)) c5 ?_
      refine p_iload_n dX7_putRange_37 rfl 2 rfl ?_
      refine p_iload_n dX7_putRange_38 rfl 3 rfl ?_
      refine p_iload dX7_putRange_39 5 rfl ?_
      refine p_imul dX7_putRange_41 ?_
      refine p_iadd dX7_putRange_42 ?_
      refine p_callSi dX7_putRange_43 M_X7_numberOfValue (Or.inl rfl) [vi (h (a0 + 1) v1), vi (w32 (v2 + (w32 (v3 * v5))))] (t_X7_numberOfValue _ _ _ _ hf) ok_X7_numberOfValue rfl tb_422 tb_423 rfl (Nat.le_of_ble_eq_true rfl) ⟨rfl, rfl⟩ ⟨by decide, by decide⟩ ⟨by decide, by decide⟩ (fun r6 h7 hf => ?_)
      obtain ⟨c8, hf⟩ := hf
      refine p_iast dX7_putRange_46 (nnk (nnk (nnk h0 (by decide)) (by decide)) c5.1) c8 ?_
      replace hf := hb_e hf
      generalize up h7 (a0 + 4 + 1 + v1) v5 r6 = h9 at hf ⊢
      refine p_iload_n dX7_putRange_47 rfl 1 rfl ?_
      refine p_if_ne (tgt := 64) (q := v1 ≠ 0) dX7_putRange_48 (by decide) Iff.rfl (fun hc => ?_) (fun hc => ?_)
      · replace hf := Eq.mp (if_pos hc) hf
        exact t_X7_putRange_64 h0 ih _ _ _ _ _ _ hf
      · replace hf := Eq.mp (if_neg hc) hf
        refine p_aload_n dX7_putRange_51 rfl 0 rfl ?_
        refine p_aload_n dX7_putRange_52 rfl 0 rfl ?_
        refine p_lay (c := 7) (tq := 105) (n := 5) dX7_putRange_53 5 4 tb_361 (by decide) (by decide) h0 (by decide) (by decide) (fun _ => rfl) (vr 105 (a0 + 4) 5) rfl ?_
        refine p_iload_n dX7_putRange_56 rfl 1 rfl ?_
        refine p_aaldI dX7_putRange_57 (nnk h0 (by decide)) c5 ?_
        refine p_iload dX7_putRange_58 5 rfl ?_
        refine p_iald dX7_putRange_60 (nnk (nnk (nnk h0 (by decide)) (by decide)) c5.1) c8 ?_
        refine p_callVv dX7_putRange_61 M_X7_putOnScale rfl [vi (h9 (a0 + 4 + 1 + v1) v5)] (t_X7_putOnScale _ _ _ _ h0 hf) ok_X7_putOnScale rfl (c := 7) (by decide) h0 rfl tb_433 ⟨tb_435, ts_17⟩ rfl (Nat.le_of_ble_eq_true rfl) ⟨rfl, rfl⟩ ⟨by decide, by decide⟩ ⟨by decide, by decide⟩ (fun _ h11 hf => ?_)
        exact t_X7_putRange_64 h0 ih _ _ _ _ _ _ hf
def w_X7_putRange (a0 x1 x2 x3 x4 : Int) (h : Hh) (K : Int → Hh → Prop) : Prop := w_X7_canRange a0 x1 x2 x3 x4 h (fun r1 h2 => if r1 ≠ 0 then (w_X7_putRange_16 K  a0 NF x1 x2 x3 x4 0 h2) else (K 0 h2))
set_option maxRecDepth 100000 in
set_option maxHeartbeats 4000000 in
theorem t_X7_putRange {G : Gx} (a0 x1 x2 x3 x4 : Int) (h : Hh) (K : Int → Hh → Prop) (h0 : 0 ≤ a0) (hf : w_X7_putRange a0 x1 x2 x3 x4 h K) : CT G M_X7_putRange rm_X7_putRange 0 0 [] [vr 7 a0 0, vi x1, vi x2, vi x3, vi x4] h K := by
  unfold w_X7_putRange at hf
  refine CT.of (ls0 := [(0, vr 7 a0 0), (1, vi x1), (2, vi x2), (3, vi x3), (4, vi x4)]) (plainFor_of_name (by decide +kernel)) (by decide +kernel) (Nat.le_of_ble_eq_true rfl) rfl rfl ?_
  refine p_aload_n dX7_putRange_0 rfl 0 rfl ?_
  refine p_iload_n dX7_putRange_1 rfl 1 rfl ?_
  refine p_iload_n dX7_putRange_2 rfl 2 rfl ?_
  refine p_iload_n dX7_putRange_3 rfl 3 rfl ?_
  refine p_iload dX7_putRange_4 4 rfl ?_
  refine p_callVi dX7_putRange_6 M_X7_canRange (Or.inr rfl) [vi x1, vi x2, vi x3, vi x4] (t_X7_canRange _ _ _ _ _ _ _ h0 hf) ok_X7_canRange rfl (c := 7) (by decide) h0 rfl tb_421 ⟨tb_409, ts_15⟩ rfl (Nat.le_of_ble_eq_true rfl) ⟨rfl, rfl⟩ ⟨by decide, by decide⟩ ⟨by decide, by decide⟩ (fun r1 h2 hf => ?_)
  refine p_if_ne (tgt := 13) (q := r1 ≠ 0) dX7_putRange_9 (by decide) Iff.rfl (fun hc => ?_) (fun hc => ?_)
  · replace hf := Eq.mp (if_pos hc) hf
    refine p_iconst dX7_putRange_13 (by decide) ?_
    refine p_istore (ls' := [(5, vi 0), (0, vr 7 a0 0), (1, vi x1), (2, vi x2), (3, vi x3), (4, vi x4)]) dX7_putRange_14 (by decide) rfl ?_
    refine p_sub (ls' := [(0, vr 7 a0 0), (1, vi x1), (2, vi x2), (3, vi x3), (4, vi x4), (5, vi 0)]) [1, 2, 3, 4, 5, 0] rfl ?_
    refine t_X7_putRange_16 h0  NF _ _ _ _ _ _ hf
  · replace hf := Eq.mp (if_neg hc) hf
    exact p_vret dX7_putRange_12 rfl (by decide) (by decide) (fun _ h => absurd h List.not_mem_nil) hf
theorem ok_X7_putRange : mOK M_X7_putRange 4 := ⟨tb_420, tb_10, by decide +kernel⟩
abbrev M_X7_hasAllRanges : MD := (yX7_hasAllRanges, cX7_hasAllRanges, 2, some .boolean)
abbrev rm_X7_hasAllRanges : Room := { frames := 0, cells := 0, slots := 0, locals := 0 }
def w_X7_hasAllRanges_2 (K : Int → Hh → Prop) (a0 : Int) : Nat → Int → Hh → Prop
  | 0, _, _ => False
  | n + 1, v1, h => if v1 ≥ h a0 0 then (K 1 h) else (((0 : Int) ≤ v1 ∧ (v1 : Int) < 5) ∧ (if h (a0 + 3) v1 ≠ 0 then (vb (w32 (v1 + 1)) fun z2 => w_X7_hasAllRanges_2 K  a0 n z2 h) else (K 0 h)))
set_option maxRecDepth 100000 in
set_option maxHeartbeats 4000000 in
theorem t_X7_hasAllRanges_2 {G : Gx} {n0 : Int} {K : Int → Hh → Prop} {a0 : Int} (h0 : 0 ≤ a0) : ∀ (n : Nat) (v1 : Int) (h : Hh), w_X7_hasAllRanges_2 K  a0 n v1 h → PW G M_X7_hasAllRanges rm_X7_hasAllRanges 0 0 [] n0 K 2 [(0, vr 7 a0 0), (1, vi v1)] [] [] 0 0 h := by
  intro n
  induction n with
  | zero =>
    intro v1 h hf
    rw [w_X7_hasAllRanges_2] at hf
    exact hf.elim
  | succ n ih =>
    intro v1 h hf
    rw [w_X7_hasAllRanges_2] at hf
    refine p_iload_n dX7_hasAllRanges_2 rfl 1 rfl ?_
    refine p_aload_n dX7_hasAllRanges_3 rfl 0 rfl ?_
    refine p_get (c := 7) (vi (h a0 0)) dX7_hasAllRanges_4 0 tb_353 (by decide) (by decide) (Or.inl rfl) h0 rfl rfl ?_
    refine p_icmp_ge (tgt := 27) (q := v1 ≥ h a0 0) dX7_hasAllRanges_7 (by decide) Iff.rfl (fun hc => ?_) (fun hc => ?_)
    · replace hf := Eq.mp (if_pos hc) hf
      refine p_iconst dX7_hasAllRanges_27 (by decide) ?_
      exact p_zret dX7_hasAllRanges_28 rfl (by decide) (by decide) (fun _ h => absurd h List.not_mem_nil) (Or.inr rfl) hf
    · replace hf := Eq.mp (if_neg hc) hf
      refine p_aload_n dX7_hasAllRanges_10 rfl 0 rfl ?_
      refine p_lay (c := 7) (tq := 100) (n := 5) dX7_hasAllRanges_11 4 3 tb_360 (by decide) (by decide) h0 (by decide) (by decide) (fun _ => rfl) (vr 100 (a0 + 3) 5) rfl ?_
      refine p_iload_n dX7_hasAllRanges_14 rfl 1 rfl ?_
      obtain ⟨c1, hf⟩ := hf
      refine p_iald dX7_hasAllRanges_15 (nnk h0 (by decide)) c1 ?_
      refine p_if_ne (tgt := 21) (q := h (a0 + 3) v1 ≠ 0) dX7_hasAllRanges_16 (by decide) Iff.rfl (fun hc => ?_) (fun hc => ?_)
      · replace hf := Eq.mp (if_pos hc) hf
        refine p_iinc (ls' := [(1, vi (w32 (v1 + 1))), (0, vr 7 a0 0)]) dX7_hasAllRanges_21 1 rfl (by decide) rfl ?_
        replace hf := vb_e hf
        generalize w32 (v1 + 1) = z2 at hf ⊢
        refine p_goto (tgt := 2) dX7_hasAllRanges_24 (by decide) ?_
        refine p_sub (ls' := [(0, vr 7 a0 0), (1, vi z2)]) [1, 0] rfl ?_
        exact ih _ _ hf
      · replace hf := Eq.mp (if_neg hc) hf
        refine p_iconst dX7_hasAllRanges_19 (by decide) ?_
        exact p_zret dX7_hasAllRanges_20 rfl (by decide) (by decide) (fun _ h => absurd h List.not_mem_nil) (Or.inl rfl) hf
def w_X7_hasAllRanges (a0 : Int) (h : Hh) (K : Int → Hh → Prop) : Prop := w_X7_hasAllRanges_2 K  a0 NF 0 h
set_option maxRecDepth 100000 in
set_option maxHeartbeats 4000000 in
theorem t_X7_hasAllRanges {G : Gx} (a0 : Int) (h : Hh) (K : Int → Hh → Prop) (h0 : 0 ≤ a0) (hf : w_X7_hasAllRanges a0 h K) : CT G M_X7_hasAllRanges rm_X7_hasAllRanges 0 0 [] [vr 7 a0 0] h K := by
  unfold w_X7_hasAllRanges at hf
  refine CT.of (ls0 := [(0, vr 7 a0 0)]) (plainFor_of_name (by decide +kernel)) (by decide +kernel) (Nat.le_of_ble_eq_true rfl) rfl rfl ?_
  refine p_iconst dX7_hasAllRanges_0 (by decide) ?_
  refine p_istore_n (ls' := [(1, vi 0), (0, vr 7 a0 0)]) dX7_hasAllRanges_1 rfl (by decide) rfl ?_
  refine p_sub (ls' := [(0, vr 7 a0 0), (1, vi 0)]) [1, 0] rfl ?_
  refine t_X7_hasAllRanges_2 h0  NF _ _ hf
theorem ok_X7_hasAllRanges : mOK M_X7_hasAllRanges 0 := ⟨tb_457, tb_10, by decide +kernel⟩
abbrev M_X7_numberOf : MD := (yX7_numberOf, cX7_numberOf, 3, some .int)
abbrev rm_X7_numberOf : Room := { frames := 2, cells := 0, slots := 0, locals := 43 }
def w_X7_numberOf_21 (K : Int → Hh → Prop) (a0 : Int) (s0 : Int) (h : Hh) : Prop := K s0 h
set_option maxRecDepth 100000 in
set_option maxHeartbeats 4000000 in
theorem t_X7_numberOf_21 {G : Gx} {n0 : Int} {K : Int → Hh → Prop} {a0 : Int} (h0 : 0 ≤ a0)  (s0 : Int) (h : Hh) (hf : w_X7_numberOf_21 K  a0 s0 h) : PW G M_X7_numberOf rm_X7_numberOf 0 0 [] n0 K 21 [] [vi s0] [] 0 0 h := by
  unfold w_X7_numberOf_21 at hf
  exact p_iret dX7_numberOf_21 rfl (by decide) (by decide) (fun _ h => absurd h List.not_mem_nil) hf
def w_X7_numberOf (a0 x1 x2 : Int) (h : Hh) (K : Int → Hh → Prop) : Prop := w_X7_hasMark a0 x1 x2 h (fun r1 h2 => if r1 = 0 then (w_X7_numberOf_21 K  a0 0 h2) else (((0 : Int) ≤ x1 ∧ (x1 : Int) < 5) ∧ (((0 : Int) ≤ x2 ∧ (x2 : Int) < 40) ∧ (w_X7_numberOf_21 K  a0 (h2 (a0 + 4 + 1 + x1) x2) h2))))
set_option maxRecDepth 100000 in
set_option maxHeartbeats 4000000 in
theorem t_X7_numberOf {G : Gx} (a0 x1 x2 : Int) (h : Hh) (K : Int → Hh → Prop) (h0 : 0 ≤ a0) (hf : w_X7_numberOf a0 x1 x2 h K) : CT G M_X7_numberOf rm_X7_numberOf 0 0 [] [vr 7 a0 0, vi x1, vi x2] h K := by
  unfold w_X7_numberOf at hf
  refine CT.of (ls0 := [(0, vr 7 a0 0), (1, vi x1), (2, vi x2)]) (plainFor_of_name (by decide +kernel)) (by decide +kernel) (Nat.le_of_ble_eq_true rfl) rfl rfl ?_
  refine p_aload_n dX7_numberOf_0 rfl 0 rfl ?_
  refine p_iload_n dX7_numberOf_1 rfl 1 rfl ?_
  refine p_iload_n dX7_numberOf_2 rfl 2 rfl ?_
  refine p_callVi dX7_numberOf_3 M_X7_hasMark (Or.inr rfl) [vi x1, vi x2] (t_X7_hasMark _ _ _ _ _ h0 hf) ok_X7_hasMark rfl (c := 7) (by decide) h0 rfl tb_449 ⟨tb_443, ts_18⟩ rfl (Nat.le_of_ble_eq_true rfl) ⟨rfl, rfl⟩ ⟨by decide, by decide⟩ ⟨by decide, by decide⟩ (fun r1 h2 hf => ?_)
  refine p_if_eq (tgt := 20) (q := r1 = 0) dX7_numberOf_6 (by decide) Iff.rfl (fun hc => ?_) (fun hc => ?_)
  · replace hf := Eq.mp (if_pos hc) hf
    refine p_iconst dX7_numberOf_20 (by decide) ?_
    refine p_sub (ls' := []) [] rfl ?_
    exact t_X7_numberOf_21 h0  _ _ hf
  · replace hf := Eq.mp (if_neg hc) hf
    refine p_aload_n dX7_numberOf_9 rfl 0 rfl ?_
    refine p_lay (c := 7) (tq := 105) (n := 5) dX7_numberOf_10 5 4 tb_361 (by decide) (by decide) h0 (by decide) (by decide) (fun _ => rfl) (vr 105 (a0 + 4) 5) rfl ?_
    refine p_iload_n dX7_numberOf_13 rfl 1 rfl ?_
    obtain ⟨c3, hf⟩ := hf
    refine p_aaldI dX7_numberOf_14 (nnk h0 (by decide)) c3 ?_
    refine p_iload_n dX7_numberOf_15 rfl 2 rfl ?_
    obtain ⟨c4, hf⟩ := hf
    refine p_iald dX7_numberOf_16 (nnk (nnk (nnk h0 (by decide)) (by decide)) c3.1) c4 ?_
    refine p_goto (tgt := 21) dX7_numberOf_17 (by decide) ?_
    refine p_sub (ls' := []) [] rfl ?_
    exact t_X7_numberOf_21 h0  _ _ hf
theorem ok_X7_numberOf : mOK M_X7_numberOf 2 := ⟨tb_448, tb_10, by decide +kernel⟩
