abbrev M_X7_isOrder : MD := (yX7_isOrder, cX7_isOrder, 6, some .boolean)
abbrev rm_X7_isOrder : Room := { frames := 0, cells := 0, slots := 0, locals := 0 }
def w_X7_isOrder_7 (K : Int → Hh → Prop) (X47 : Hh → Prop) (X67 : Int → Hh → Prop) (a0 : Int) : Nat → Int → Int → Int → Hh → Prop
  | 0, _, _, _, _ => False
  | n + 1, v2, v3, v4, h => if v4 ≥ h a0 0 then (X67 v2 h) else (vb (Int.tmod v2 10) fun z1 => if z1 < 1 then (X47  h) else (if z1 ≥ h a0 0 then (X47  h) else (if (i32 ((i32 v3 >>> (i32 z1 &&& 31)).toInt) &&& i32 1).toInt ≠ 1 then (vb ((i32 v3 ||| i32 ((i32 1 <<< (i32 z1 &&& 31)).toInt)).toInt) fun z2 => vb (w32 (Int.tdiv v2 10)) fun z3 => vb (w32 (v4 + 1)) fun z4 => w_X7_isOrder_7 K X47 X67 a0 n z3 z2 z4 h) else (X47  h))))
set_option maxRecDepth 100000 in
set_option maxHeartbeats 4000000 in
theorem t_X7_isOrder_7 {G : Gx} {n0 : Int} {K : Int → Hh → Prop} {X47 : Hh → Prop} {X67 : Int → Hh → Prop} {a0 : Int} (h0 : 0 ≤ a0) (hX47 : ∀ (h : Hh), X47  h → PW G M_X7_isOrder rm_X7_isOrder 0 0 [] n0 K 47 [] [] [] 0 0 h) (hX67 : ∀ (v2 : Int) (h : Hh), X67 v2 h → PW G M_X7_isOrder rm_X7_isOrder 0 0 [] n0 K 67 [(2, vi v2)] [] [] 0 0 h) : ∀ (n : Nat) (v2 v3 v4 : Int) (h : Hh), w_X7_isOrder_7 K X47 X67 a0 n v2 v3 v4 h → PW G M_X7_isOrder rm_X7_isOrder 0 0 [] n0 K 7 [(0, vr 7 a0 0), (2, vi v2), (3, vi v3), (4, vi v4)] [] [] 0 0 h := by
  intro n
  induction n with
  | zero =>
    intro v2 v3 v4 h hf
    rw [w_X7_isOrder_7] at hf
    exact hf.elim
  | succ n ih =>
    intro v2 v3 v4 h hf
    rw [w_X7_isOrder_7] at hf
    refine p_iload dX7_isOrder_7 3 rfl ?_
    refine p_aload_n dX7_isOrder_9 rfl 0 rfl ?_
    refine p_get (c := 7) (vi (h a0 0)) dX7_isOrder_10 0 tb_353 (by decide) (by decide) (Or.inl rfl) h0 rfl rfl ?_
    refine p_icmp_ge (tgt := 67) (q := v4 ≥ h a0 0) dX7_isOrder_13 (by decide) Iff.rfl (fun hc => ?_) (fun hc => ?_)
    · replace hf := Eq.mp (if_pos hc) hf
      refine p_sub (ls' := [(2, vi v2)]) [1] rfl ?_
      exact hX67 _ _ hf
    · replace hf := Eq.mp (if_neg hc) hf
      refine p_iload_n dX7_isOrder_16 rfl 1 rfl ?_
      refine p_bipush dX7_isOrder_17 (by decide) (by decide) ?_
      refine p_irem dX7_isOrder_19 (by decide) ?_
      refine p_istore (ls' := [(5, vi (Int.tmod v2 10)), (0, vr 7 a0 0), (2, vi v2), (3, vi v3), (4, vi v4)]) dX7_isOrder_20 (by decide) rfl ?_
      replace hf := vb_e hf
      generalize (Int.tmod v2 10) = z1 at hf ⊢
      refine p_iload dX7_isOrder_22 0 rfl ?_
      refine p_iconst dX7_isOrder_24 (by decide) ?_
      refine p_icmp_lt (tgt := 47) (q := z1 < 1) dX7_isOrder_25 (by decide) Iff.rfl (fun hc => ?_) (fun hc => ?_)
      · replace hf := Eq.mp (if_pos hc) hf
        refine p_sub (ls' := []) [] rfl ?_
        exact hX47  _ hf
      · replace hf := Eq.mp (if_neg hc) hf
        refine p_iload dX7_isOrder_28 0 rfl ?_
        refine p_aload_n dX7_isOrder_30 rfl 1 rfl ?_
        refine p_get (c := 7) (vi (h a0 0)) dX7_isOrder_31 0 tb_353 (by decide) (by decide) (Or.inl rfl) h0 rfl rfl ?_
        refine p_icmp_ge (tgt := 47) (q := z1 ≥ h a0 0) dX7_isOrder_34 (by decide) Iff.rfl (fun hc => ?_) (fun hc => ?_)
        · replace hf := Eq.mp (if_pos hc) hf
          refine p_sub (ls' := []) [] rfl ?_
          exact hX47  _ hf
        · replace hf := Eq.mp (if_neg hc) hf
          refine p_iload_n dX7_isOrder_37 rfl 3 rfl ?_
          refine p_iload dX7_isOrder_38 0 rfl ?_
          refine p_ishr dX7_isOrder_40 ?_
          refine p_iconst dX7_isOrder_41 (by decide) ?_
          refine p_iand dX7_isOrder_42 ?_
          refine p_iconst dX7_isOrder_43 (by decide) ?_
          refine p_icmp_ne (tgt := 49) (q := (i32 ((i32 v3 >>> (i32 z1 &&& 31)).toInt) &&& i32 1).toInt ≠ 1) dX7_isOrder_44 (by decide) Iff.rfl (fun hc => ?_) (fun hc => ?_)
          · replace hf := Eq.mp (if_pos hc) hf
            refine p_iload_n dX7_isOrder_49 rfl 3 rfl ?_
            refine p_iconst dX7_isOrder_50 (by decide) ?_
            refine p_iload dX7_isOrder_51 0 rfl ?_
            refine p_ishl dX7_isOrder_53 ?_
            refine p_ior dX7_isOrder_54 ?_
            refine p_istore_n (ls' := [(3, vi ((i32 v3 ||| i32 ((i32 1 <<< (i32 z1 &&& 31)).toInt)).toInt)), (5, vi z1), (0, vr 7 a0 0), (2, vi v2), (4, vi v4)]) dX7_isOrder_55 rfl (by decide) rfl ?_
            replace hf := vb_e hf
            generalize ((i32 v3 ||| i32 ((i32 1 <<< (i32 z1 &&& 31)).toInt)).toInt) = z2 at hf ⊢
            refine p_iload_n dX7_isOrder_56 rfl 3 rfl ?_
            refine p_bipush dX7_isOrder_57 (by decide) (by decide) ?_
            refine p_idiv dX7_isOrder_59 (by decide) ?_
            refine p_istore_n (ls' := [(2, vi (w32 (Int.tdiv v2 10))), (3, vi z2), (5, vi z1), (0, vr 7 a0 0), (4, vi v4)]) dX7_isOrder_60 rfl (by decide) rfl ?_
            replace hf := vb_e hf
            generalize (w32 (Int.tdiv v2 10)) = z3 at hf ⊢
            refine p_iinc (ls' := [(4, vi (w32 (v4 + 1))), (2, vi z3), (3, vi z2), (5, vi z1), (0, vr 7 a0 0)]) dX7_isOrder_61 4 rfl (by decide) rfl ?_
            replace hf := vb_e hf
            generalize w32 (v4 + 1) = z4 at hf ⊢
            refine p_goto (tgt := 7) dX7_isOrder_64 (by decide) ?_
            refine p_sub (ls' := [(0, vr 7 a0 0), (2, vi z3), (3, vi z2), (4, vi z4)]) [4, 1, 2, 0] rfl ?_
            exact ih _ _ _ _ hf
          · replace hf := Eq.mp (if_neg hc) hf
            refine p_sub (ls' := []) [] rfl ?_
            exact hX47  _ hf
def w_X7_isOrder_47 (K : Int → Hh → Prop) (a0 : Int) (h : Hh) : Prop := K 0 h
set_option maxRecDepth 100000 in
set_option maxHeartbeats 4000000 in
theorem t_X7_isOrder_47 {G : Gx} {n0 : Int} {K : Int → Hh → Prop} {a0 : Int} (h0 : 0 ≤ a0)  (h : Hh) (hf : w_X7_isOrder_47 K  a0  h) : PW G M_X7_isOrder rm_X7_isOrder 0 0 [] n0 K 47 [] [] [] 0 0 h := by
  unfold w_X7_isOrder_47 at hf
  refine p_iconst dX7_isOrder_47 (by decide) ?_
  exact p_zret dX7_isOrder_48 rfl (by decide) (by decide) (fun _ h => absurd h List.not_mem_nil) (Or.inl rfl) hf
def w_X7_isOrder_76 (K : Int → Hh → Prop) (a0 : Int) (s0 : Int) (h : Hh) : Prop := (s0 = 0 ∨ s0 = 1) ∧ (K s0 h)
set_option maxRecDepth 100000 in
set_option maxHeartbeats 4000000 in
theorem t_X7_isOrder_76 {G : Gx} {n0 : Int} {K : Int → Hh → Prop} {a0 : Int} (h0 : 0 ≤ a0)  (s0 : Int) (h : Hh) (hf : w_X7_isOrder_76 K  a0 s0 h) : PW G M_X7_isOrder rm_X7_isOrder 0 0 [] n0 K 76 [] [vi s0] [] 0 0 h := by
  unfold w_X7_isOrder_76 at hf
  obtain ⟨c8, hf⟩ := hf
  exact p_zret dX7_isOrder_76 rfl (by decide) (by decide) (fun _ h => absurd h List.not_mem_nil) c8 hf
def w_X7_isOrder (a0 x1 : Int) (h : Hh) (K : Int → Hh → Prop) : Prop := w_X7_isOrder_7 K (fun h5 => w_X7_isOrder_47 K  a0  h5) (fun u7 h6 => if u7 ≠ 0 then (w_X7_isOrder_76 K  a0 0 h6) else (w_X7_isOrder_76 K  a0 1 h6)) a0 NF x1 0 1 h
set_option maxRecDepth 100000 in
set_option maxHeartbeats 4000000 in
theorem t_X7_isOrder {G : Gx} (a0 x1 : Int) (h : Hh) (K : Int → Hh → Prop) (h0 : 0 ≤ a0) (hf : w_X7_isOrder a0 x1 h K) : CT G M_X7_isOrder rm_X7_isOrder 0 0 [] [vr 7 a0 0, vi x1] h K := by
  unfold w_X7_isOrder at hf
  refine CT.of (ls0 := [(0, vr 7 a0 0), (1, vi x1)]) (plainFor_of_name (by decide +kernel)) (by decide +kernel) (Nat.le_of_ble_eq_true rfl) rfl rfl ?_
  refine p_iload_n dX7_isOrder_0 rfl 1 rfl ?_
  refine p_istore_n (ls' := [(2, vi x1), (0, vr 7 a0 0), (1, vi x1)]) dX7_isOrder_1 rfl (by decide) rfl ?_
  refine p_iconst dX7_isOrder_2 (by decide) ?_
  refine p_istore_n (ls' := [(3, vi 0), (2, vi x1), (0, vr 7 a0 0), (1, vi x1)]) dX7_isOrder_3 rfl (by decide) rfl ?_
  refine p_iconst dX7_isOrder_4 (by decide) ?_
  refine p_istore (ls' := [(4, vi 1), (3, vi 0), (2, vi x1), (0, vr 7 a0 0), (1, vi x1)]) dX7_isOrder_5 (by decide) rfl ?_
  refine p_sub (ls' := [(0, vr 7 a0 0), (2, vi x1), (3, vi 0), (4, vi 1)]) [3, 2, 1, 0] rfl ?_
  refine t_X7_isOrder_7 h0 ?_ ?_ NF _ _ _ _ hf
  · intro h5 hf
    exact t_X7_isOrder_47 h0   _ hf
  · intro u7 h6 hf
    refine p_iload_n dX7_isOrder_67 rfl 0 rfl ?_
    refine p_if_ne (tgt := 75) (q := u7 ≠ 0) dX7_isOrder_68 (by decide) Iff.rfl (fun hc => ?_) (fun hc => ?_)
    · replace hf := Eq.mp (if_pos hc) hf
      refine p_iconst dX7_isOrder_75 (by decide) ?_
      refine p_sub (ls' := []) [] rfl ?_
      exact t_X7_isOrder_76 h0  _ _ hf
    · replace hf := Eq.mp (if_neg hc) hf
      refine p_iconst dX7_isOrder_71 (by decide) ?_
      refine p_goto (tgt := 76) dX7_isOrder_72 (by decide) ?_
      refine p_sub (ls' := []) [] rfl ?_
      exact t_X7_isOrder_76 h0  _ _ hf
theorem ok_X7_isOrder : mOK M_X7_isOrder 1 := ⟨tb_461, tb_10, by decide +kernel⟩
abbrev M_X7_tenthsOf : MD := (yX7_tenthsOf, cX7_tenthsOf, 5, some .int)
abbrev rm_X7_tenthsOf : Room := { frames := 0, cells := 0, slots := 0, locals := 0 }
def w_X7_tenthsOf_37 (K : Int → Hh → Prop) (a0 : Int) (h : Hh) : Prop := K (-1) h
set_option maxRecDepth 100000 in
set_option maxHeartbeats 4000000 in
theorem t_X7_tenthsOf_37 {G : Gx} {n0 : Int} {K : Int → Hh → Prop} {a0 : Int} (h0 : 0 ≤ a0)  (h : Hh) (hf : w_X7_tenthsOf_37 K  a0  h) : PW G M_X7_tenthsOf rm_X7_tenthsOf 0 0 [] n0 K 37 [] [] [] 0 0 h := by
  unfold w_X7_tenthsOf_37 at hf
  refine p_iconst dX7_tenthsOf_37 (by decide) ?_
  exact p_iret dX7_tenthsOf_38 rfl (by decide) (by decide) (fun _ h => absurd h List.not_mem_nil) hf
def w_X7_tenthsOf_41 (K : Int → Hh → Prop) (X71 : Int → Int → Hh → Prop) (a0 : Int) : Nat → Int → Int → Hh → Prop
  | 0, _, _, _ => False
  | n + 1, v1, v3, h => if w32 (v3 + 1) ≥ h a0 7 then (X71 v1 v3 h) else (((0 : Int) ≤ w32 (v3 + 1) ∧ (w32 (v3 + 1) : Int) < 40) ∧ (if h (a0 + 10) (w32 (v3 + 1)) > v1 then (X71 v1 v3 h) else (vb (w32 (v3 + 1)) fun z4 => w_X7_tenthsOf_41 K X71 a0 n v1 z4 h)))
set_option maxRecDepth 100000 in
set_option maxHeartbeats 4000000 in
theorem t_X7_tenthsOf_41 {G : Gx} {n0 : Int} {K : Int → Hh → Prop} {X71 : Int → Int → Hh → Prop} {a0 : Int} (h0 : 0 ≤ a0) (hX71 : ∀ (v1 v3 : Int) (h : Hh), X71 v1 v3 h → PW G M_X7_tenthsOf rm_X7_tenthsOf 0 0 [] n0 K 71 [(0, vr 7 a0 0), (1, vl v1), (3, vi v3)] [] [] 0 0 h) : ∀ (n : Nat) (v1 v3 : Int) (h : Hh), w_X7_tenthsOf_41 K X71 a0 n v1 v3 h → PW G M_X7_tenthsOf rm_X7_tenthsOf 0 0 [] n0 K 41 [(0, vr 7 a0 0), (1, vl v1), (3, vi v3)] [] [] 0 0 h := by
  intro n
  induction n with
  | zero =>
    intro v1 v3 h hf
    rw [w_X7_tenthsOf_41] at hf
    exact hf.elim
  | succ n ih =>
    intro v1 v3 h hf
    rw [w_X7_tenthsOf_41] at hf
    refine p_iload_n dX7_tenthsOf_41 rfl 2 rfl ?_
    refine p_iconst dX7_tenthsOf_42 (by decide) ?_
    refine p_iadd dX7_tenthsOf_43 ?_
    refine p_aload_n dX7_tenthsOf_44 rfl 0 rfl ?_
    refine p_get (c := 7) (vi (h a0 7)) dX7_tenthsOf_45 7 tb_363 (by decide) (by decide) (Or.inl rfl) h0 rfl rfl ?_
    refine p_icmp_ge (tgt := 71) (q := w32 (v3 + 1) ≥ h a0 7) dX7_tenthsOf_48 (by decide) Iff.rfl (fun hc => ?_) (fun hc => ?_)
    · replace hf := Eq.mp (if_pos hc) hf
      exact hX71 _ _ _ hf
    · replace hf := Eq.mp (if_neg hc) hf
      refine p_aload_n dX7_tenthsOf_51 rfl 0 rfl ?_
      refine p_lay (c := 7) (tq := 100) (n := 40) dX7_tenthsOf_52 6 10 tb_362 (by decide) (by decide) h0 (by decide) (by decide) (fun _ => rfl) (vr 100 (a0 + 10) 40) rfl ?_
      refine p_iload_n dX7_tenthsOf_55 rfl 2 rfl ?_
      refine p_iconst dX7_tenthsOf_56 (by decide) ?_
      refine p_iadd dX7_tenthsOf_57 ?_
      obtain ⟨c3, hf⟩ := hf
      refine p_iald dX7_tenthsOf_58 (nnk h0 (by decide)) c3 ?_
      refine p_i2l dX7_tenthsOf_59 ?_
      refine p_lload_n dX7_tenthsOf_60 rfl 1 rfl ?_
      refine p_lcmp (z := (if h (a0 + 10) (w32 (v3 + 1)) < v1 then (-1) else if h (a0 + 10) (w32 (v3 + 1)) = v1 then 0 else 1)) dX7_tenthsOf_61 rfl ?_
      refine p_if_gt (tgt := 71) (q := h (a0 + 10) (w32 (v3 + 1)) > v1) dX7_tenthsOf_62 (by decide) (lc_gt (h (a0 + 10) (w32 (v3 + 1))) v1) (fun hc => ?_) (fun hc => ?_)
      · replace hf := Eq.mp (if_pos hc) hf
        exact hX71 _ _ _ hf
      · replace hf := Eq.mp (if_neg hc) hf
        refine p_iinc (ls' := [(3, vi (w32 (v3 + 1))), (0, vr 7 a0 0), (1, vl v1)]) dX7_tenthsOf_65 2 rfl (by decide) rfl ?_
        replace hf := vb_e hf
        generalize w32 (v3 + 1) = z4 at hf ⊢
        refine p_goto (tgt := 41) dX7_tenthsOf_68 (by decide) ?_
        refine p_sub (ls' := [(0, vr 7 a0 0), (1, vl v1), (3, vi z4)]) [1, 2, 0] rfl ?_
        exact ih _ _ _ hf
def w_X7_tenthsOf_138 (K : Int → Hh → Prop) (a0 : Int) (s0 : Int) (h : Hh) : Prop := K s0 h
set_option maxRecDepth 100000 in
set_option maxHeartbeats 4000000 in
theorem t_X7_tenthsOf_138 {G : Gx} {n0 : Int} {K : Int → Hh → Prop} {a0 : Int} (h0 : 0 ≤ a0)  (s0 : Int) (h : Hh) (hf : w_X7_tenthsOf_138 K  a0 s0 h) : PW G M_X7_tenthsOf rm_X7_tenthsOf 0 0 [] n0 K 138 [] [vi s0] [] 0 0 h := by
  unfold w_X7_tenthsOf_138 at hf
  exact p_iret dX7_tenthsOf_138 rfl (by decide) (by decide) (fun _ h => absurd h List.not_mem_nil) hf
def w_X7_tenthsOf_71 (K : Int → Hh → Prop) (a0 : Int) (v1 v3 : Int) (h : Hh) : Prop := if w32 (v3 + 1) < h a0 7 then (((0 : Int) ≤ w32 (v3 + 1) ∧ (w32 (v3 + 1) : Int) < 40) ∧ (((0 : Int) ≤ v3 ∧ (v3 : Int) < 40) ∧ (vb (w32 ((h (a0 + 10) (w32 (v3 + 1))) - (h (a0 + 10) v3))) fun z10 => if z10 > 0 then ((z10 ≠ 0) ∧ (w_X7_tenthsOf_138 K  a0 (w32 ((w32 (10 * v3)) + (w32 (w64 (Int.tdiv (w64 (10 * (w64 (v1 - (h (a0 + 10) v3))))) z10))))) h)) else (w_X7_tenthsOf_138 K  a0 (w32 (10 * v3)) h)))) else (K (w32 (10 * v3)) h)
set_option maxRecDepth 100000 in
set_option maxHeartbeats 4000000 in
theorem t_X7_tenthsOf_71 {G : Gx} {n0 : Int} {K : Int → Hh → Prop} {a0 : Int} (h0 : 0 ≤ a0)  (v1 v3 : Int) (h : Hh) (hf : w_X7_tenthsOf_71 K  a0 v1 v3 h) : PW G M_X7_tenthsOf rm_X7_tenthsOf 0 0 [] n0 K 71 [(0, vr 7 a0 0), (1, vl v1), (3, vi v3)] [] [] 0 0 h := by
  unfold w_X7_tenthsOf_71 at hf
  refine p_iload_n dX7_tenthsOf_71 rfl 2 rfl ?_
  refine p_iconst dX7_tenthsOf_72 (by decide) ?_
  refine p_iadd dX7_tenthsOf_73 ?_
  refine p_aload_n dX7_tenthsOf_74 rfl 0 rfl ?_
  refine p_get (c := 7) (vi (h a0 7)) dX7_tenthsOf_75 7 tb_363 (by decide) (by decide) (Or.inl rfl) h0 rfl rfl ?_
  refine p_icmp_lt (tgt := 86) (q := w32 (v3 + 1) < h a0 7) dX7_tenthsOf_78 (by decide) Iff.rfl (fun hc => ?_) (fun hc => ?_)
  · replace hf := Eq.mp (if_pos hc) hf
    refine p_aload_n dX7_tenthsOf_86 rfl 0 rfl ?_
    refine p_lay (c := 7) (tq := 100) (n := 40) dX7_tenthsOf_87 6 10 tb_362 (by decide) (by decide) h0 (by decide) (by decide) (fun _ => rfl) (vr 100 (a0 + 10) 40) rfl ?_
    refine p_iload_n dX7_tenthsOf_90 rfl 2 rfl ?_
    refine p_iconst dX7_tenthsOf_91 (by decide) ?_
    refine p_iadd dX7_tenthsOf_92 ?_
    obtain ⟨c8, hf⟩ := hf
    refine p_iald dX7_tenthsOf_93 (nnk h0 (by decide)) c8 ?_
    refine p_aload_n dX7_tenthsOf_94 rfl 0 rfl ?_
    refine p_lay (c := 7) (tq := 100) (n := 40) dX7_tenthsOf_95 6 10 tb_362 (by decide) (by decide) h0 (by decide) (by decide) (fun _ => rfl) (vr 100 (a0 + 10) 40) rfl ?_
    refine p_iload_n dX7_tenthsOf_98 rfl 2 rfl ?_
    obtain ⟨c9, hf⟩ := hf
    refine p_iald dX7_tenthsOf_99 (nnk h0 (by decide)) c9 ?_
    refine p_isub dX7_tenthsOf_100 ?_
    refine p_istore (ls' := [(4, vi (w32 ((h (a0 + 10) (w32 (v3 + 1))) - (h (a0 + 10) v3)))), (0, vr 7 a0 0), (1, vl v1), (3, vi v3)]) dX7_tenthsOf_101 (by decide) rfl ?_
    replace hf := vb_e hf
    generalize (w32 ((h (a0 + 10) (w32 (v3 + 1))) - (h (a0 + 10) v3))) = z10 at hf ⊢
    refine p_iload dX7_tenthsOf_103 0 rfl ?_
    refine p_if_gt (tgt := 115) (q := z10 > 0) dX7_tenthsOf_105 (by decide) Iff.rfl (fun hc => ?_) (fun hc => ?_)
    · replace hf := Eq.mp (if_pos hc) hf
      refine p_bipush dX7_tenthsOf_115 (by decide) (by decide) ?_
      refine p_iload_n dX7_tenthsOf_117 rfl 3 rfl ?_
      refine p_imul dX7_tenthsOf_118 ?_
      refine p_ldc2 (z := 10) dX7_tenthsOf_119 tb_643 (by decide) ?_
      refine p_lload_n dX7_tenthsOf_122 rfl 2 rfl ?_
      refine p_aload_n dX7_tenthsOf_123 rfl 1 rfl ?_
      refine p_lay (c := 7) (tq := 100) (n := 40) dX7_tenthsOf_124 6 10 tb_362 (by decide) (by decide) h0 (by decide) (by decide) (fun _ => rfl) (vr 100 (a0 + 10) 40) rfl ?_
      refine p_iload_n dX7_tenthsOf_127 rfl 3 rfl ?_
      refine p_iald dX7_tenthsOf_128 (nnk h0 (by decide)) c9 ?_
      refine p_i2l dX7_tenthsOf_129 ?_
      refine p_lsub dX7_tenthsOf_130 ?_
      refine p_lmul dX7_tenthsOf_131 ?_
      refine p_iload dX7_tenthsOf_132 0 rfl ?_
      refine p_i2l dX7_tenthsOf_134 ?_
      obtain ⟨c11, hf⟩ := hf
      refine p_ldiv dX7_tenthsOf_135 c11 ?_
      refine p_l2i dX7_tenthsOf_136 ?_
      refine p_iadd dX7_tenthsOf_137 ?_
      refine p_sub (ls' := []) [] rfl ?_
      exact t_X7_tenthsOf_138 h0  _ _ hf
    · replace hf := Eq.mp (if_neg hc) hf
      refine p_bipush dX7_tenthsOf_108 (by decide) (by decide) ?_
      refine p_iload_n dX7_tenthsOf_110 rfl 3 rfl ?_
      refine p_imul dX7_tenthsOf_111 ?_
      refine p_goto (tgt := 138) dX7_tenthsOf_112 (by decide) ?_
      refine p_sub (ls' := []) [] rfl ?_
      exact t_X7_tenthsOf_138 h0  _ _ hf
  · replace hf := Eq.mp (if_neg hc) hf
    refine p_bipush dX7_tenthsOf_81 (by decide) (by decide) ?_
    refine p_iload_n dX7_tenthsOf_83 rfl 2 rfl ?_
    refine p_imul dX7_tenthsOf_84 ?_
    exact p_iret dX7_tenthsOf_85 rfl (by decide) (by decide) (fun _ h => absurd h List.not_mem_nil) hf
def w_X7_tenthsOf (a0 x1 : Int) (h : Hh) (K : Int → Hh → Prop) : Prop := if h a0 7 < 1 then (w_X7_tenthsOf_37 K  a0  h) else (((0 : Int) ≤ 0 ∧ (0 : Int) < 40) ∧ (if x1 < h (a0 + 10) 0 then (w_X7_tenthsOf_37 K  a0  h) else (((0 : Int) ≤ w32 ((h a0 7) - 1) ∧ (w32 ((h a0 7) - 1) : Int) < 40) ∧ (if x1 ≤ h (a0 + 10) (w32 ((h a0 7) - 1)) then (w_X7_tenthsOf_41 K (fun u6 u7 h5 => w_X7_tenthsOf_71 K  a0 u6 u7 h5) a0 NF x1 0 h) else (w_X7_tenthsOf_37 K  a0  h)))))
set_option maxRecDepth 100000 in
set_option maxHeartbeats 4000000 in
theorem t_X7_tenthsOf {G : Gx} (a0 x1 : Int) (h : Hh) (K : Int → Hh → Prop) (h0 : 0 ≤ a0) (hf : w_X7_tenthsOf a0 x1 h K) : CT G M_X7_tenthsOf rm_X7_tenthsOf 0 0 [] [vr 7 a0 0, vl x1] h K := by
  unfold w_X7_tenthsOf at hf
  refine CT.of (ls0 := [(0, vr 7 a0 0), (1, vl x1)]) (plainFor_of_name (by decide +kernel)) (by decide +kernel) (Nat.le_of_ble_eq_true rfl) rfl rfl ?_
  refine p_aload_n dX7_tenthsOf_0 rfl 0 rfl ?_
  refine p_get (c := 7) (vi (h a0 7)) dX7_tenthsOf_1 7 tb_363 (by decide) (by decide) (Or.inl rfl) h0 rfl rfl ?_
  refine p_iconst dX7_tenthsOf_4 (by decide) ?_
  refine p_icmp_lt (tgt := 37) (q := h a0 7 < 1) dX7_tenthsOf_5 (by decide) Iff.rfl (fun hc => ?_) (fun hc => ?_)
  · replace hf := Eq.mp (if_pos hc) hf
    refine p_sub (ls' := []) [] rfl ?_
    exact t_X7_tenthsOf_37 h0   _ hf
  · replace hf := Eq.mp (if_neg hc) hf
    refine p_lload_n dX7_tenthsOf_8 rfl 1 rfl ?_
    refine p_aload_n dX7_tenthsOf_9 rfl 0 rfl ?_
    refine p_lay (c := 7) (tq := 100) (n := 40) dX7_tenthsOf_10 6 10 tb_362 (by decide) (by decide) h0 (by decide) (by decide) (fun _ => rfl) (vr 100 (a0 + 10) 40) rfl ?_
    refine p_iconst dX7_tenthsOf_13 (by decide) ?_
    obtain ⟨c1, hf⟩ := hf
    refine p_iald dX7_tenthsOf_14 (nnk h0 (by decide)) c1 ?_
    refine p_i2l dX7_tenthsOf_15 ?_
    refine p_lcmp (z := (if x1 < h (a0 + 10) 0 then (-1) else if x1 = h (a0 + 10) 0 then 0 else 1)) dX7_tenthsOf_16 rfl ?_
    refine p_if_lt (tgt := 37) (q := x1 < h (a0 + 10) 0) dX7_tenthsOf_17 (by decide) (lc_lt x1 (h (a0 + 10) 0)) (fun hc => ?_) (fun hc => ?_)
    · replace hf := Eq.mp (if_pos hc) hf
      refine p_sub (ls' := []) [] rfl ?_
      exact t_X7_tenthsOf_37 h0   _ hf
    · replace hf := Eq.mp (if_neg hc) hf
      refine p_lload_n dX7_tenthsOf_20 rfl 1 rfl ?_
      refine p_aload_n dX7_tenthsOf_21 rfl 0 rfl ?_
      refine p_lay (c := 7) (tq := 100) (n := 40) dX7_tenthsOf_22 6 10 tb_362 (by decide) (by decide) h0 (by decide) (by decide) (fun _ => rfl) (vr 100 (a0 + 10) 40) rfl ?_
      refine p_aload_n dX7_tenthsOf_25 rfl 0 rfl ?_
      refine p_get (c := 7) (vi (h a0 7)) dX7_tenthsOf_26 7 tb_363 (by decide) (by decide) (Or.inl rfl) h0 rfl rfl ?_
      refine p_iconst dX7_tenthsOf_29 (by decide) ?_
      refine p_isub dX7_tenthsOf_30 ?_
      obtain ⟨c2, hf⟩ := hf
      refine p_iald dX7_tenthsOf_31 (nnk h0 (by decide)) c2 ?_
      refine p_i2l dX7_tenthsOf_32 ?_
      refine p_lcmp (z := (if x1 < h (a0 + 10) (w32 ((h a0 7) - 1)) then (-1) else if x1 = h (a0 + 10) (w32 ((h a0 7) - 1)) then 0 else 1)) dX7_tenthsOf_33 rfl ?_
      refine p_if_le (tgt := 39) (q := x1 ≤ h (a0 + 10) (w32 ((h a0 7) - 1))) dX7_tenthsOf_34 (by decide) (lc_le x1 (h (a0 + 10) (w32 ((h a0 7) - 1)))) (fun hc => ?_) (fun hc => ?_)
      · replace hf := Eq.mp (if_pos hc) hf
        refine p_iconst dX7_tenthsOf_39 (by decide) ?_
        refine p_istore_n (ls' := [(3, vi 0), (0, vr 7 a0 0), (1, vl x1)]) dX7_tenthsOf_40 rfl (by decide) rfl ?_
        refine p_sub (ls' := [(0, vr 7 a0 0), (1, vl x1), (3, vi 0)]) [1, 2, 0] rfl ?_
        refine t_X7_tenthsOf_41 h0 ?_ NF _ _ _ hf
        · intro u6 u7 h5 hf
          exact t_X7_tenthsOf_71 h0  _ _ _ hf
      · replace hf := Eq.mp (if_neg hc) hf
        refine p_sub (ls' := []) [] rfl ?_
        exact t_X7_tenthsOf_37 h0   _ hf
theorem ok_X7_tenthsOf : mOK M_X7_tenthsOf 1 := ⟨tb_642, tb_10, by decide +kernel⟩
abbrev M_X8_init : MD := (yX8_init, cX8_init, 1, none)
abbrev rm_X8_init : Room := { frames := 1, cells := 1, slots := 120, locals := 20 }
def w_X8_init (a0 : Int) (h : Hh) (K : Int → Hh → Prop) : Prop := (h (-1) 0 = a0 + 1) ∧ (hb (nw h (fun _ => 0)) fun h2 => hb (up h2 a0 0 (a0 + 1)) fun h3 => K 0 h3)
set_option maxRecDepth 100000 in
set_option maxHeartbeats 4000000 in
theorem t_X8_init {G : Gx} (a0 : Int) (h : Hh) (K : Int → Hh → Prop) (h0 : 0 ≤ a0) (hf : w_X8_init a0 h K) : CT G M_X8_init rm_X8_init 1 120 [vr 102 (a0 + 1) 120] [vr 58 a0 0] h K := by
  unfold w_X8_init at hf
  refine CT.of (ls0 := [(0, vr 58 a0 0)]) (plainFor_of_name (by decide +kernel)) (by decide +kernel) (Nat.le_of_ble_eq_true rfl) rfl rfl ?_
  refine p_aload_n dX8_init_0 rfl 0 rfl ?_
  refine p_oinit dX8_init_1 tb_29 tb_22 tb_23 (by decide) h0 (Nat.le_of_ble_eq_true rfl) ⟨by decide, by decide⟩ ?_
  refine p_aload_n dX8_init_4 rfl 0 rfl ?_
  refine p_bipush dX8_init_5 (by decide) (by decide) ?_
  obtain ⟨c1, hf⟩ := hf
  refine p_newa (t := 102) (ti := 2) (ty := .byte) (z := a0 + 1) dX8_init_7 rfl (Or.inr (Or.inr ⟨rfl, rfl⟩)) rfl tb_39 (by decide) c1 ⟨by decide, by decide⟩ ?_
  replace hf := hb_e hf
  generalize nw h (fun _ => 0) = h2 at hf ⊢
  refine p_norm (kn' := [vr 102 (a0 + 1) 120]) (cells' := 1) (slots' := 120) rfl rfl rfl ?_
  refine p_putaF (c := 8) dX8_init_9 0 tb_30 (by decide) (by decide) (Or.inr rfl) h0 rfl rfl rfl rfl rfl (by decide) (fun q => absurd q (by decide)) (up h2 a0 0 (a0 + 1)) rfl ?_
  replace hf := hb_e hf
  generalize up h2 a0 0 (a0 + 1) = h3 at hf ⊢
  exact p_vret dX8_init_12 rfl (by decide) (by decide) (List.forall_mem_cons.mpr ⟨List.mem_of_getElem? (i := 0) rfl, fun _ h => absurd h List.not_mem_nil⟩) hf
theorem ok_X8_init : mOK M_X8_init 0 := ⟨tb_28, tb_2, by decide +kernel⟩
abbrev M_X8_add : MD := (yX8_add, cX8_add, 3, none)
abbrev rm_X8_add : Room := { frames := 0, cells := 0, slots := 0, locals := 0 }
def w_X8_add_42 (K : Int → Hh → Prop) (B : Int → Int → Hh → Prop) (a0 : Int) (v1 v2 : Int) (h : Hh) : Prop := vb (w32 (v2 + (-8))) fun z1 => B v1 z1 h
set_option maxRecDepth 100000 in
set_option maxHeartbeats 4000000 in
theorem t_X8_add_42 {G : Gx} {n0 : Int} {K : Int → Hh → Prop} {B : Int → Int → Hh → Prop} {a0 : Int} (h0 : 0 ≤ a0) (hB : ∀ (v1 v2 : Int) (h : Hh), B v1 v2 h → PW G M_X8_add rm_X8_add 0 0 [] n0 K 3 [(0, vr 8 a0 0), (1, vi v1), (2, vi v2)] [] [] 0 0 h)  (v1 v2 : Int) (h : Hh) (hf : w_X8_add_42 K B a0 v1 v2 h) : PW G M_X8_add rm_X8_add 0 0 [] n0 K 42 [(0, vr 8 a0 0), (1, vi v1), (2, vi v2)] [] [] 0 0 h := by
  unfold w_X8_add_42 at hf
  refine p_iinc (ls' := [(2, vi (w32 (v2 + (-8)))), (0, vr 8 a0 0), (1, vi v1)]) dX8_add_42 2 rfl (by decide) rfl ?_
  replace hf := vb_e hf
  generalize w32 (v2 + (-8)) = z1 at hf ⊢
  refine p_goto (tgt := 3) dX8_add_45 (by decide) ?_
  refine p_sub (ls' := [(0, vr 8 a0 0), (1, vi v1), (2, vi z1)]) [1, 2, 0] rfl ?_
  exact hB _ _ _ hf
def w_X8_add_3 (K : Int → Hh → Prop) (a0 : Int) : Nat → Int → Int → Hh → Prop
  | 0, _, _, _ => False
  | n + 1, v1, v2, h => if v2 < 0 then (K 0 h) else (if h a0 1 ≥ 120 then (w_X8_add_42 K (w_X8_add_3 K  a0 n) a0 v1 v2 h) else (((0 : Int) ≤ h a0 1 ∧ (h a0 1 : Int) < 120) ∧ (hb (up h (a0 + 1) (h a0 1) ((i32 (((i32 v1).toUInt32 >>> ((i32 v2).toUInt32 &&& Int32.toUInt32 31)).toInt32.toInt)).toInt8.toInt32.toInt)) fun h3 => hb (up h3 a0 1 (w32 ((h3 a0 1) + 1))) fun h4 => w_X8_add_42 K (w_X8_add_3 K  a0 n) a0 v1 v2 h4)))
set_option maxRecDepth 100000 in
set_option maxHeartbeats 4000000 in
theorem t_X8_add_3 {G : Gx} {n0 : Int} {K : Int → Hh → Prop} {a0 : Int} (h0 : 0 ≤ a0) : ∀ (n : Nat) (v1 v2 : Int) (h : Hh), w_X8_add_3 K  a0 n v1 v2 h → PW G M_X8_add rm_X8_add 0 0 [] n0 K 3 [(0, vr 8 a0 0), (1, vi v1), (2, vi v2)] [] [] 0 0 h := by
  intro n
  induction n with
  | zero =>
    intro v1 v2 h hf
    rw [w_X8_add_3] at hf
    exact hf.elim
  | succ n ih =>
    intro v1 v2 h hf
    rw [w_X8_add_3] at hf
    refine p_iload_n dX8_add_3 rfl 2 rfl ?_
    refine p_if_lt (tgt := 48) (q := v2 < 0) dX8_add_4 (by decide) Iff.rfl (fun hc => ?_) (fun hc => ?_)
    · replace hf := Eq.mp (if_pos hc) hf
      exact p_vret dX8_add_48 rfl (by decide) (by decide) (fun _ h => absurd h List.not_mem_nil) hf
    · replace hf := Eq.mp (if_neg hc) hf
      refine p_aload_n dX8_add_7 rfl 0 rfl ?_
      refine p_get (c := 8) (vi (h a0 1)) dX8_add_8 1 tb_32 (by decide) (by decide) (Or.inl rfl) h0 rfl rfl ?_
      refine p_aload_n dX8_add_11 rfl 0 rfl ?_
      refine p_lay (c := 8) (tq := 102) (n := 120) dX8_add_12 0 1 tb_30 (by decide) (by decide) h0 (by decide) (by decide) (fun _ => rfl) (vr 102 (a0 + 1) 120) rfl ?_
      refine p_alen dX8_add_15 (by decide) (nnk h0 (by decide)) ?_
      refine p_icmp_ge (tgt := 42) (q := h a0 1 ≥ 120) dX8_add_16 (by decide) Iff.rfl (fun hc => ?_) (fun hc => ?_)
      · replace hf := Eq.mp (if_pos hc) hf
        exact t_X8_add_42 h0 ih _ _ _ hf
      · replace hf := Eq.mp (if_neg hc) hf
        refine p_aload_n dX8_add_19 rfl 0 rfl ?_
        refine p_lay (c := 8) (tq := 102) (n := 120) dX8_add_20 0 1 tb_30 (by decide) (by decide) h0 (by decide) (by decide) (fun _ => rfl) (vr 102 (a0 + 1) 120) rfl ?_
        refine p_aload_n dX8_add_23 rfl 0 rfl ?_
        refine p_get (c := 8) (vi (h a0 1)) dX8_add_24 1 tb_32 (by decide) (by decide) (Or.inl rfl) h0 rfl rfl ?_
        refine p_iload_n dX8_add_27 rfl 1 rfl ?_
        refine p_iload_n dX8_add_28 rfl 2 rfl ?_
        refine p_iushr dX8_add_29 ?_
        refine p_i2b dX8_add_30 ?_
        obtain ⟨c2, hf⟩ := hf
        refine p_bast dX8_add_31 (nnk h0 (by decide)) c2 (byte_r _) (byte_t _) ?_
        replace hf := hb_e hf
        generalize up h (a0 + 1) (h a0 1) ((i32 (((i32 v1).toUInt32 >>> ((i32 v2).toUInt32 &&& Int32.toUInt32 31)).toInt32.toInt)).toInt8.toInt32.toInt) = h3 at hf ⊢
        refine p_aload_n dX8_add_32 rfl 0 rfl ?_
        refine p_dup dX8_add_33 (fun _ q => by cases q) ?_
        refine p_get (c := 8) (vi (h3 a0 1)) dX8_add_34 1 tb_32 (by decide) (by decide) (Or.inl rfl) h0 rfl rfl ?_
        refine p_iconst dX8_add_37 (by decide) ?_
        refine p_iadd dX8_add_38 ?_
        refine p_puti (c := 8) dX8_add_39 1 tb_32 (by decide) (by decide) (Or.inl rfl) h0 rfl rfl (fun _ => by decide) (up h3 a0 1 (w32 ((h3 a0 1) + 1))) rfl ?_
        replace hf := hb_e hf
        generalize up h3 a0 1 (w32 ((h3 a0 1) + 1)) = h4 at hf ⊢
        exact t_X8_add_42 h0 ih _ _ _ hf
def w_X8_add (a0 x1 : Int) (h : Hh) (K : Int → Hh → Prop) : Prop := w_X8_add_3 K  a0 NF x1 24 h
set_option maxRecDepth 100000 in
set_option maxHeartbeats 4000000 in
theorem t_X8_add {G : Gx} (a0 x1 : Int) (h : Hh) (K : Int → Hh → Prop) (h0 : 0 ≤ a0) (hf : w_X8_add a0 x1 h K) : CT G M_X8_add rm_X8_add 0 0 [] [vr 8 a0 0, vi x1] h K := by
  unfold w_X8_add at hf
  refine CT.of (ls0 := [(0, vr 8 a0 0), (1, vi x1)]) (plainFor_of_name (by decide +kernel)) (by decide +kernel) (Nat.le_of_ble_eq_true rfl) rfl rfl ?_
  refine p_bipush dX8_add_0 (by decide) (by decide) ?_
  refine p_istore_n (ls' := [(2, vi 24), (0, vr 8 a0 0), (1, vi x1)]) dX8_add_2 rfl (by decide) rfl ?_
  refine p_sub (ls' := [(0, vr 8 a0 0), (1, vi x1), (2, vi 24)]) [1, 2, 0] rfl ?_
  refine t_X8_add_3 h0  NF _ _ _ hf
theorem ok_X8_add : mOK M_X8_add 1 := ⟨tb_286, tb_2, by decide +kernel⟩
abbrev M_X9_init : MD := (yX9_init, cX9_init, 1, none)
abbrev rm_X9_init : Room := { frames := 1, cells := 0, slots := 0, locals := 20 }
def w_X9_init (a0 : Int) (h : Hh) (K : Int → Hh → Prop) : Prop := K 0 h
set_option maxRecDepth 100000 in
set_option maxHeartbeats 4000000 in
theorem t_X9_init {G : Gx} (a0 : Int) (h : Hh) (K : Int → Hh → Prop) (h0 : 0 ≤ a0) (hf : w_X9_init a0 h K) : CT G M_X9_init rm_X9_init 0 0 [] [vr 59 a0 0] h K := by
  unfold w_X9_init at hf
  refine CT.of (ls0 := [(0, vr 59 a0 0)]) (plainFor_of_name (by decide +kernel)) (by decide +kernel) (Nat.le_of_ble_eq_true rfl) rfl rfl ?_
  refine p_aload_n dX9_init_0 rfl 0 rfl ?_
  refine p_oinit dX9_init_1 tb_151 tb_22 tb_23 (by decide) h0 (Nat.le_of_ble_eq_true rfl) ⟨by decide, by decide⟩ ?_
  exact p_vret dX9_init_4 rfl (by decide) (by decide) (fun _ h => absurd h List.not_mem_nil) hf
theorem ok_X9_init : mOK M_X9_init 0 := ⟨tb_150, tb_6, by decide +kernel⟩
abbrev M_X9_along : MD := (yX9_along, cX9_along, 5, none)
abbrev rm_X9_along : Room := { frames := 3, cells := 0, slots := 0, locals := 75 }
def w_X9_along_19 (K : Int → Hh → Prop) (X138 : Hh → Prop) (a0 : Int) : Nat → Int → Int → Int → Int → Int → Hh → Prop
  | 0, _, _, _, _, _, _ => False
  | n + 1, v1, v2, v2n, v3, v4, h => if v4 > v3 then (X138  h) else (0 ≤ v1 ∧ (if v4 ≥ h v1 3 then (X138  h) else (0 ≤ v2 ∧ (if w32 (v4 + 1) ≥ v2n then (X138  h) else (((0 : Int) ≤ v4 ∧ (v4 : Int) < 3) ∧ (w_X4_lies (v1 + 6) (w64 ((h (v1 + 2) v4) * (h a0 3))) h (fun r7 h8 => hb (up h8 a0 0 r7) fun h9 => ((0 : Int) ≤ w32 (v4 + 1) ∧ (w32 (v4 + 1) : Int) < v2n) ∧ (w_X4_lies (v1 + 6) (w64 ((h9 (v1 + 3) v4) * (h9 v2 (w32 (v4 + 1))))) h9 (fun r11 h12 => hb (up h12 a0 1 r11) fun h13 => w_X0_meets v1 v4 (h13 a0 0) (h13 a0 1) h13 (fun r14 h15 => hb (up h15 a0 2 r14) fun h16 => w_X4_placeReadAt (v1 + 6) (h16 a0 2) h16 (fun r17 h18 => w_X0_sumAt v1 v4 r17 h18 (fun r19 h20 => hb (up h20 a0 3 r19) fun h21 => vb (w32 (v4 + 1)) fun z22 => w_X9_along_19 K X138 a0 n v1 v2 v2n v3 z22 h21))))))))))))
set_option maxRecDepth 100000 in
set_option maxHeartbeats 4000000 in
theorem t_X9_along_19 {G : Gx} {n0 : Int} {K : Int → Hh → Prop} {X138 : Hh → Prop} {a0 : Int} (h0 : 0 ≤ a0) (hX138 : ∀ (h : Hh), X138  h → PW G M_X9_along rm_X9_along 0 0 [] n0 K 138 [] [] [] 0 0 h) : ∀ (n : Nat) (v1 v2 v2n v3 v4 : Int) (h : Hh), w_X9_along_19 K X138 a0 n v1 v2 v2n v3 v4 h → PW G M_X9_along rm_X9_along 0 0 [] n0 K 19 [(0, vr 9 a0 0), (1, vr 0 v1 0), (2, vr 101 v2 v2n), (3, vi v3), (4, vi v4)] [] [] 0 0 h := by
  intro n
  induction n with
  | zero =>
    intro v1 v2 v2n v3 v4 h hf
    rw [w_X9_along_19] at hf
    exact hf.elim
  | succ n ih =>
    intro v1 v2 v2n v3 v4 h hf
    rw [w_X9_along_19] at hf
    refine p_iload dX9_along_19 4 rfl ?_
    refine p_iload_n dX9_along_21 rfl 3 rfl ?_
    refine p_icmp_gt (tgt := 138) (q := v4 > v3) dX9_along_22 (by decide) Iff.rfl (fun hc => ?_) (fun hc => ?_)
    · replace hf := Eq.mp (if_pos hc) hf
      refine p_sub (ls' := []) [] rfl ?_
      exact hX138  _ hf
    · replace hf := Eq.mp (if_neg hc) hf
      refine p_iload dX9_along_25 4 rfl ?_
      refine p_aload_n dX9_along_27 rfl 1 rfl ?_
      obtain ⟨c4, hf⟩ := hf
      refine p_getN (c := 0) (vi (h v1 3)) dX9_along_28 3 tb_499 (by decide) (by decide) (Or.inl rfl) c4 rfl rfl ?_
      refine p_icmp_ge (tgt := 138) (q := v4 ≥ h v1 3) dX9_along_31 (by decide) Iff.rfl (fun hc => ?_) (fun hc => ?_)
      · replace hf := Eq.mp (if_pos hc) hf
        refine p_sub (ls' := []) [] rfl ?_
        exact hX138  _ hf
      · replace hf := Eq.mp (if_neg hc) hf
        refine p_iload dX9_along_34 4 rfl ?_
        refine p_iconst dX9_along_36 (by decide) ?_
        refine p_iadd dX9_along_37 ?_
        refine p_aload_n dX9_along_38 rfl 2 rfl ?_
        obtain ⟨c5, hf⟩ := hf
        refine p_alen dX9_along_39 (by decide) c5 ?_
        refine p_icmp_ge (tgt := 138) (q := w32 (v4 + 1) ≥ v2n) dX9_along_40 (by decide) Iff.rfl (fun hc => ?_) (fun hc => ?_)
        · replace hf := Eq.mp (if_pos hc) hf
          refine p_sub (ls' := []) [] rfl ?_
          exact hX138  _ hf
        · replace hf := Eq.mp (if_neg hc) hf
          refine p_aload_n dX9_along_43 rfl 0 rfl ?_
          refine p_aload_n dX9_along_44 rfl 1 rfl ?_
          refine p_layN (c := 0) (tq := 4) (n := 0) dX9_along_45 10 6 tb_514 (by decide) (by decide) c4 (by decide) (by decide) (fun _ => rfl) (vr 4 (v1 + 6) 0) rfl ?_
          refine p_aload_n dX9_along_48 rfl 1 rfl ?_
          refine p_layN (c := 0) (tq := 100) (n := 3) dX9_along_49 6 2 tb_506 (by decide) (by decide) c4 (by decide) (by decide) (fun _ => rfl) (vr 100 (v1 + 2) 3) rfl ?_
          refine p_iload dX9_along_52 4 rfl ?_
          obtain ⟨c6, hf⟩ := hf
          refine p_iald dX9_along_54 (nnk c4 (by decide)) c6 ?_
          refine p_i2l dX9_along_55 ?_
          refine p_aload_n dX9_along_56 rfl 0 rfl ?_
          refine p_get (c := 9) (vl (h a0 3)) dX9_along_57 3 tb_158 (by decide) (by decide) (Or.inl rfl) h0 rfl rfl ?_
          refine p_lmul dX9_along_60 ?_
          refine p_callVNl dX9_along_61 M_X4_lies rfl [vl (w64 ((h (v1 + 2) v4) * (h a0 3)))] (t_X4_lies _ _ _ _ (nnk c4 (by decide)) hf) ok_X4_lies rfl (c := 4) (by decide) (nnk c4 (by decide)) rfl tb_610 ⟨tb_612, ts_36⟩ rfl (Nat.le_of_ble_eq_true rfl) ⟨rfl, rfl⟩ ⟨by decide, by decide⟩ ⟨by decide, by decide⟩ (fun r7 h8 hf => ?_)
          refine p_putl (c := 9) dX9_along_64 0 tb_152 (by decide) (by decide) (Or.inl rfl) h0 rfl rfl (fun _ => by decide) (up h8 a0 0 r7) rfl ?_
          replace hf := hb_e hf
          generalize up h8 a0 0 r7 = h9 at hf ⊢
          refine p_aload_n dX9_along_67 rfl 0 rfl ?_
          refine p_aload_n dX9_along_68 rfl 1 rfl ?_
          refine p_layN (c := 0) (tq := 4) (n := 0) dX9_along_69 10 6 tb_514 (by decide) (by decide) c4 (by decide) (by decide) (fun _ => rfl) (vr 4 (v1 + 6) 0) rfl ?_
          refine p_aload_n dX9_along_72 rfl 1 rfl ?_
          refine p_layN (c := 0) (tq := 100) (n := 3) dX9_along_73 7 3 tb_509 (by decide) (by decide) c4 (by decide) (by decide) (fun _ => rfl) (vr 100 (v1 + 3) 3) rfl ?_
          refine p_iload dX9_along_76 4 rfl ?_
          refine p_iald dX9_along_78 (nnk c4 (by decide)) c6 ?_
          refine p_i2l dX9_along_79 ?_
          refine p_aload_n dX9_along_80 rfl 2 rfl ?_
          refine p_iload dX9_along_81 4 rfl ?_
          refine p_iconst dX9_along_83 (by decide) ?_
          refine p_iadd dX9_along_84 ?_
          obtain ⟨c10, hf⟩ := hf
          refine p_lald dX9_along_85 c5 c10 ?_
          refine p_lmul dX9_along_86 ?_
          refine p_callVNl dX9_along_87 M_X4_lies rfl [vl (w64 ((h9 (v1 + 3) v4) * (h9 v2 (w32 (v4 + 1)))))] (t_X4_lies _ _ _ _ (nnk c4 (by decide)) hf) ok_X4_lies rfl (c := 4) (by decide) (nnk c4 (by decide)) rfl tb_610 ⟨tb_612, ts_36⟩ rfl (Nat.le_of_ble_eq_true rfl) ⟨rfl, rfl⟩ ⟨by decide, by decide⟩ ⟨by decide, by decide⟩ (fun r11 h12 hf => ?_)
          refine p_putl (c := 9) dX9_along_90 1 tb_154 (by decide) (by decide) (Or.inl rfl) h0 rfl rfl (fun _ => by decide) (up h12 a0 1 r11) rfl ?_
          replace hf := hb_e hf
          generalize up h12 a0 1 r11 = h13 at hf ⊢
          refine p_aload_n dX9_along_93 rfl 0 rfl ?_
          refine p_aload_n dX9_along_94 rfl 1 rfl ?_
          refine p_iload dX9_along_95 4 rfl ?_
          refine p_aload_n dX9_along_97 rfl 0 rfl ?_
          refine p_get (c := 9) (vl (h13 a0 0)) dX9_along_98 0 tb_152 (by decide) (by decide) (Or.inl rfl) h0 rfl rfl ?_
          refine p_aload_n dX9_along_101 rfl 0 rfl ?_
          refine p_get (c := 9) (vl (h13 a0 1)) dX9_along_102 1 tb_154 (by decide) (by decide) (Or.inl rfl) h0 rfl rfl ?_
          refine p_callVNl dX9_along_105 M_X0_meets rfl [vi v4, vl (h13 a0 0), vl (h13 a0 1)] (t_X0_meets _ _ _ _ _ _ c4 hf) ok_X0_meets rfl (c := 0) (by decide) c4 rfl tb_615 ⟨tb_617, ts_37⟩ rfl (Nat.le_of_ble_eq_true rfl) ⟨rfl, rfl⟩ ⟨by decide, by decide⟩ ⟨by decide, by decide⟩ (fun r14 h15 hf => ?_)
          refine p_putl (c := 9) dX9_along_108 2 tb_156 (by decide) (by decide) (Or.inl rfl) h0 rfl rfl (fun _ => by decide) (up h15 a0 2 r14) rfl ?_
          replace hf := hb_e hf
          generalize up h15 a0 2 r14 = h16 at hf ⊢
          refine p_aload_n dX9_along_111 rfl 0 rfl ?_
          refine p_aload_n dX9_along_112 rfl 1 rfl ?_
          refine p_iload dX9_along_113 4 rfl ?_
          refine p_aload_n dX9_along_115 rfl 1 rfl ?_
          refine p_layN (c := 0) (tq := 4) (n := 0) dX9_along_116 10 6 tb_514 (by decide) (by decide) c4 (by decide) (by decide) (fun _ => rfl) (vr 4 (v1 + 6) 0) rfl ?_
          refine p_aload_n dX9_along_119 rfl 0 rfl ?_
          refine p_get (c := 9) (vl (h16 a0 2)) dX9_along_120 2 tb_156 (by decide) (by decide) (Or.inl rfl) h0 rfl rfl ?_
          refine p_callVNl dX9_along_123 M_X4_placeReadAt rfl [vl (h16 a0 2)] (t_X4_placeReadAt _ _ _ _ (nnk c4 (by decide)) hf) ok_X4_placeReadAt rfl (c := 4) (by decide) (nnk c4 (by decide)) rfl tb_624 ⟨tb_626, ts_39⟩ rfl (Nat.le_of_ble_eq_true rfl) ⟨rfl, rfl⟩ ⟨by decide, by decide⟩ ⟨by decide, by decide⟩ (fun r17 h18 hf => ?_)
          refine p_callVNl dX9_along_126 M_X0_sumAt rfl [vi v4, vl r17] (t_X0_sumAt _ _ _ _ _ c4 hf) ok_X0_sumAt rfl (c := 0) (by decide) c4 rfl tb_635 ⟨tb_637, ts_40⟩ rfl (Nat.le_of_ble_eq_true rfl) ⟨rfl, rfl⟩ ⟨by decide, by decide⟩ ⟨by decide, by decide⟩ (fun r19 h20 hf => ?_)
          refine p_putl (c := 9) dX9_along_129 3 tb_158 (by decide) (by decide) (Or.inl rfl) h0 rfl rfl (fun _ => by decide) (up h20 a0 3 r19) rfl ?_
          replace hf := hb_e hf
          generalize up h20 a0 3 r19 = h21 at hf ⊢
          refine p_iinc (ls' := [(4, vi (w32 (v4 + 1))), (0, vr 9 a0 0), (1, vr 0 v1 0), (2, vr 101 v2 v2n), (3, vi v3)]) dX9_along_132 4 rfl (by decide) rfl ?_
          replace hf := vb_e hf
          generalize w32 (v4 + 1) = z22 at hf ⊢
          refine p_goto (tgt := 19) dX9_along_135 (by decide) ?_
          refine p_sub (ls' := [(0, vr 9 a0 0), (1, vr 0 v1 0), (2, vr 101 v2 v2n), (3, vi v3), (4, vi z22)]) [1, 2, 3, 4, 0] rfl ?_
          exact ih _ _ _ _ _ _ hf
def w_X9_along_138 (K : Int → Hh → Prop) (a0 : Int) (h : Hh) : Prop := K 0 h
set_option maxRecDepth 100000 in
set_option maxHeartbeats 4000000 in
theorem t_X9_along_138 {G : Gx} {n0 : Int} {K : Int → Hh → Prop} {a0 : Int} (h0 : 0 ≤ a0)  (h : Hh) (hf : w_X9_along_138 K  a0  h) : PW G M_X9_along rm_X9_along 0 0 [] n0 K 138 [] [] [] 0 0 h := by
  unfold w_X9_along_138 at hf
  exact p_vret dX9_along_138 rfl (by decide) (by decide) (fun _ h => absurd h List.not_mem_nil) hf
def w_X9_along_13 (K : Int → Hh → Prop) (a0 : Int) (v1 v2 v2n v3 s0 s1 : Int) (h : Hh) : Prop := 0 ≤ s1 ∧ (hb (up h s1 3 s0) fun h3 => w_X9_along_19 K (fun h23 => w_X9_along_138 K  a0  h23) a0 NF v1 v2 v2n v3 0 h3)
set_option maxRecDepth 100000 in
set_option maxHeartbeats 4000000 in
theorem t_X9_along_13 {G : Gx} {n0 : Int} {K : Int → Hh → Prop} {a0 : Int} (h0 : 0 ≤ a0)  (v1 v2 v2n v3 s0 s1 : Int) (h : Hh) (hf : w_X9_along_13 K  a0 v1 v2 v2n v3 s0 s1 h) : PW G M_X9_along rm_X9_along 0 0 [] n0 K 13 [(0, vr 9 a0 0), (1, vr 0 v1 0), (2, vr 101 v2 v2n), (3, vi v3)] [vl s0, vr 9 s1 0] [] 0 0 h := by
  unfold w_X9_along_13 at hf
  obtain ⟨c2, hf⟩ := hf
  refine p_putl (c := 9) dX9_along_13 3 tb_158 (by decide) (by decide) (Or.inl rfl) c2 rfl rfl (fun _ => by decide) (up h s1 3 s0) rfl ?_
  replace hf := hb_e hf
  generalize up h s1 3 s0 = h3 at hf ⊢
  refine p_iconst dX9_along_16 (by decide) ?_
  refine p_istore (ls' := [(4, vi 0), (0, vr 9 a0 0), (1, vr 0 v1 0), (2, vr 101 v2 v2n), (3, vi v3)]) dX9_along_17 (by decide) rfl ?_
  refine p_sub (ls' := [(0, vr 9 a0 0), (1, vr 0 v1 0), (2, vr 101 v2 v2n), (3, vi v3), (4, vi 0)]) [1, 2, 3, 4, 0] rfl ?_
  refine t_X9_along_19 h0 ?_ NF _ _ _ _ _ _ hf
  · intro h23 hf
    exact t_X9_along_138 h0   _ hf
def w_X9_along (a0 x1 x2 n2 x3 : Int) (h : Hh) (K : Int → Hh → Prop) : Prop := 0 ≤ x2 ∧ (if n2 ≤ 0 then (w_X9_along_13 K  a0 x1 x2 n2 x3 0 a0 h) else (((0 : Int) ≤ 0 ∧ (0 : Int) < n2) ∧ (w_X9_along_13 K  a0 x1 x2 n2 x3 (h x2 0) a0 h)))
set_option maxRecDepth 100000 in
set_option maxHeartbeats 4000000 in
theorem t_X9_along {G : Gx} (a0 x1 x2 n2 x3 : Int) (h : Hh) (K : Int → Hh → Prop) (h0 : 0 ≤ a0) (hf : w_X9_along a0 x1 x2 n2 x3 h K) : CT G M_X9_along rm_X9_along 0 0 [] [vr 9 a0 0, vr 0 x1 0, vr 101 x2 n2, vi x3] h K := by
  unfold w_X9_along at hf
  refine CT.of (ls0 := [(0, vr 9 a0 0), (1, vr 0 x1 0), (2, vr 101 x2 n2), (3, vi x3)]) (plainFor_of_name (by decide +kernel)) (by decide +kernel) (Nat.le_of_ble_eq_true rfl) rfl rfl ?_
  refine p_aload_n dX9_along_0 rfl 0 rfl ?_
  refine p_aload_n dX9_along_1 rfl 2 rfl ?_
  obtain ⟨c1, hf⟩ := hf
  refine p_alen dX9_along_2 (by decide) c1 ?_
  refine p_if_le (tgt := 12) (q := n2 ≤ 0) dX9_along_3 (by decide) Iff.rfl (fun hc => ?_) (fun hc => ?_)
  · replace hf := Eq.mp (if_pos hc) hf
    refine p_lconst (z := 0) dX9_along_12 rfl ?_
    exact t_X9_along_13 h0  _ _ _ _ _ _ _ hf
  · replace hf := Eq.mp (if_neg hc) hf
    refine p_aload_n dX9_along_6 rfl 2 rfl ?_
    refine p_iconst dX9_along_7 (by decide) ?_
    obtain ⟨c24, hf⟩ := hf
    refine p_lald dX9_along_8 c1 c24 ?_
    refine p_goto (tgt := 13) dX9_along_9 (by decide) ?_
    exact t_X9_along_13 h0  _ _ _ _ _ _ _ hf
theorem ok_X9_along : mOK M_X9_along 3 := ⟨tb_609, tb_6, by decide +kernel⟩
abbrev M_X10_init : MD := (yX10_init, cX10_init, 1, none)
abbrev rm_X10_init : Room := { frames := 2, cells := 32, slots := 1291, locals := 40 }
def w_X10_init (a0 : Int) (h : Hh) (K : Int → Hh → Prop) : Prop := (h (-1) 0 = a0 + 1) ∧ (hb (nw h (dfl 8)) fun h2 => w_X8_init (a0 + 1) h2 (fun _ h3 => (h3 (a0 + 1) 0 = (a0 + 1) + 1) ∧ ((h (-1) 0 ≤ a0 + 1) ∧ (hb (up h3 a0 0 (a0 + 1)) fun h6 => (h6 (-1) 0 = a0 + 3) ∧ (hb (nw h6 (dfl 5)) fun h8 => w_X5_init (a0 + 3) h8 (fun _ h9 => (h9 (a0 + 3) 0 = (a0 + 3) + 1) ∧ ((h9 (a0 + 3) 1 = (a0 + 3) + 2) ∧ ((h (-1) 0 ≤ a0 + 3) ∧ (hb (up h9 a0 1 (a0 + 3)) fun h13 => (h13 (-1) 0 = a0 + 6) ∧ (hb (nw h13 (fun _ => -1)) fun h15 => hb (up h15 a0 2 (a0 + 6)) fun h16 => (h16 (-1) 0 = a0 + 7) ∧ (hb (nw h16 (fun _ => -1)) fun h18 => hb (up h18 a0 4 (a0 + 7)) fun h19 => (h19 (-1) 0 = a0 + 8) ∧ (hb (nw h19 (fun _ => 0)) fun h21 => hb (up h21 a0 6 (a0 + 8)) fun h22 => (h22 (-1) 0 = a0 + 9) ∧ (hb (nw h22 (dfl 1)) fun h24 => w_X1_init (a0 + 9) h24 (fun _ h25 => (h25 (a0 + 9) 0 = (a0 + 9) + 1) ∧ ((h25 (a0 + 9) 1 = (a0 + 9) + 2) ∧ ((h25 (a0 + 9) 2 = (a0 + 9) + 3) ∧ ((h25 (a0 + 9) 3 = (a0 + 9) + 4) ∧ ((h25 (a0 + 9) 4 = (a0 + 9) + 5) ∧ ((h (-1) 0 ≤ a0 + 9) ∧ (hb (up h25 a0 11 (a0 + 9)) fun h32 => (h32 (-1) 0 = a0 + 15) ∧ (hb (nw h32 (dfl 6)) fun h34 => w_X6_init (a0 + 15) h34 (fun _ h35 => (h35 (a0 + 15) 0 = (a0 + 15) + 1) ∧ ((h35 (a0 + 15) 1 = (a0 + 15) + 2) ∧ ((h35 (a0 + 15) 2 = (a0 + 15) + 3) ∧ ((h35 (a0 + 15) 3 = (a0 + 15) + 4) ∧ ((h35 (a0 + 15) 4 = (a0 + 15) + 5) ∧ ((h35 (a0 + 15) 5 = (a0 + 15) + 6) ∧ ((h35 (a0 + 15) 6 = (a0 + 15) + 7) ∧ ((h (-1) 0 ≤ a0 + 15) ∧ (hb (up h35 a0 12 (a0 + 15)) fun h44 => (h44 (-1) 0 = a0 + 23) ∧ (hb (nw h44 (fun _ => 0)) fun h46 => hb (up h46 a0 13 (a0 + 23)) fun h47 => (h47 (-1) 0 = a0 + 24) ∧ (hb (nw h47 (dfl 9)) fun h49 => w_X9_init (a0 + 24) h49 (fun _ h50 => (h (-1) 0 ≤ a0 + 24) ∧ (hb (up h50 a0 14 (a0 + 24)) fun h52 => (h52 (-1) 0 = a0 + 25) ∧ (hb (nw h52 (dfl 3)) fun h54 => w_X3_init (a0 + 25) h54 (fun _ h55 => (h55 (a0 + 25) 0 = (a0 + 25) + 1) ∧ ((h55 (a0 + 25) 1 = (a0 + 25) + 2) ∧ ((h (-1) 0 ≤ a0 + 25) ∧ (hb (up h55 a0 15 (a0 + 25)) fun h59 => (h59 (-1) 0 = a0 + 28) ∧ (hb (nw h59 (dfl 2)) fun h61 => w_X2_init (a0 + 28) h61 (fun _ h62 => (h62 (a0 + 28) 0 = (a0 + 28) + 1) ∧ ((h62 (a0 + 28) 1 = (a0 + 28) + 2) ∧ ((h62 (a0 + 28) 2 = (a0 + 28) + 3) ∧ ((h62 (a0 + 28) 3 = (a0 + 28) + 4) ∧ ((h (-1) 0 ≤ a0 + 28) ∧ (hb (up h62 a0 16 (a0 + 28)) fun h68 => K 0 h68))))))))))))))))))))))))))))))))))))))))))))))
set_option maxRecDepth 100000 in
set_option maxHeartbeats 4000000 in
theorem t_X10_init {G : Gx} (a0 : Int) (h : Hh) (K : Int → Hh → Prop) (h0 : 0 ≤ a0) (hf : w_X10_init a0 h K) : CT G M_X10_init rm_X10_init 32 1291 [vr 8 (a0 + 1) 0, vr 5 (a0 + 3) 0, vr 103 (a0 + 6) 6, vr 104 (a0 + 7) 6, vr 100 (a0 + 8) 4, vr 1 (a0 + 9) 0, vr 6 (a0 + 15) 0, vr 101 (a0 + 23) 4, vr 9 (a0 + 24) 0, vr 3 (a0 + 25) 0, vr 2 (a0 + 28) 0] [vr 60 a0 0] h K := by
  unfold w_X10_init at hf
  refine CT.of (ls0 := [(0, vr 60 a0 0)]) (plainFor_of_name (by decide +kernel)) (by decide +kernel) (Nat.le_of_ble_eq_true rfl) rfl rfl ?_
  refine p_aload_n dX10_init_0 rfl 0 rfl ?_
  refine p_oinit dX10_init_1 tb_21 tb_22 tb_23 (by decide) h0 (Nat.le_of_ble_eq_true rfl) ⟨by decide, by decide⟩ ?_
  refine p_aload_n dX10_init_4 rfl 0 rfl ?_
  obtain ⟨c1, hf⟩ := hf
  refine p_new (c := 8) (z := a0 + 1) dX10_init_5 (by decide) tb_24 tb_25 tb_2 c1 ⟨by decide, by decide⟩ ?_
  replace hf := hb_e hf
  generalize nw h (dfl 8) = h2 at hf ⊢
  refine p_norm (kn' := []) (cells' := 1) (slots' := 2) rfl rfl rfl ?_
  refine p_dup dX10_init_8 (fun _ q => by cases q) ?_
  refine p_callINv (c := 8) dX10_init_9 M_X8_init rfl [] (t_X8_init _ _ _ (nnk h0 (by decide)) hf) ok_X8_init rfl (by decide) (nnk h0 (by decide)) rfl tb_26 rfl tb_27 rfl (Nat.le_of_ble_eq_true rfl) ⟨rfl, rfl⟩ ⟨by decide, by decide⟩ ⟨by decide, by decide⟩ (fun _ h3 hf => ?_)
  refine p_norm (kn' := [vr 102 (a0 + 1 + 1) 120]) (cells' := 2) (slots' := 122) rfl rfl rfl ?_
  obtain ⟨c4, hf⟩ := hf
  obtain ⟨c5, hf⟩ := hf
  refine p_seal (c := 8) (by decide) (nnk h0 (by decide)) c5 (show ∀ y ∈ ([(0, 1, 102, 120)] : List (Nat × Nat × Kd)), _ from List.forall_mem_cons.mpr ⟨⟨c4, List.mem_of_getElem? (i := 0) rfl⟩, fun _ h => absurd h List.not_mem_nil⟩) (List.forall_mem_cons.mpr ⟨Or.inr (Or.inr (nek (by decide))), fun _ h => absurd h List.not_mem_nil⟩) (List.forall_mem_cons.mpr ⟨Or.inr (Or.inr (nek (by decide))), fun _ h => absurd h List.not_mem_nil⟩) (List.forall_mem_cons.mpr ⟨Or.inr (Or.inl (by decide)), fun _ h => absurd h List.not_mem_nil⟩) ?_
  refine p_putrF (c := 10) (Cn := "ThreadCharts$Text") dX10_init_12 0 tb_227 (by decide) (by decide) (Or.inr rfl) h0 rfl rfl rfl rfl rfl (fun q => absurd q (by decide)) (up h3 a0 0 (a0 + 1)) rfl ?_
  replace hf := hb_e hf
  generalize up h3 a0 0 (a0 + 1) = h6 at hf ⊢
  refine p_aload_n dX10_init_15 rfl 0 rfl ?_
  obtain ⟨c7, hf⟩ := hf
  refine p_new (c := 5) (z := a0 + 3) dX10_init_16 (by decide) tb_40 tb_41 tb_3 c7 ⟨by decide, by decide⟩ ?_
  replace hf := hb_e hf
  generalize nw h6 (dfl 5) = h8 at hf ⊢
  refine p_norm (kn' := [vr 8 (a0 + 1) 0, vr 102 (a0 + 1 + 1) 120]) (cells' := 3) (slots' := 130) rfl rfl rfl ?_
  refine p_dup dX10_init_19 (fun _ q => by cases q) ?_
  refine p_callINv (c := 5) dX10_init_20 M_X5_init rfl [] (t_X5_init _ _ _ (nnk h0 (by decide)) hf) ok_X5_init rfl (by decide) (nnk h0 (by decide)) rfl tb_42 rfl tb_43 rfl (Nat.le_of_ble_eq_true rfl) ⟨rfl, rfl⟩ ⟨by decide, by decide⟩ ⟨by decide, by decide⟩ (fun _ h9 hf => ?_)
  refine p_norm (kn' := [vr 100 (a0 + 3 + 1) 5, vr 100 (a0 + 3 + 2) 5, vr 8 (a0 + 1) 0, vr 102 (a0 + 1 + 1) 120]) (cells' := 5) (slots' := 140) rfl rfl rfl ?_
  obtain ⟨c10, hf⟩ := hf
  obtain ⟨c11, hf⟩ := hf
  obtain ⟨c12, hf⟩ := hf
  refine p_seal (c := 5) (by decide) (nnk h0 (by decide)) c12 (show ∀ y ∈ ([(0, 1, 100, 5), (1, 2, 100, 5)] : List (Nat × Nat × Kd)), _ from List.forall_mem_cons.mpr ⟨⟨c10, List.mem_of_getElem? (i := 0) rfl⟩, List.forall_mem_cons.mpr ⟨⟨c11, List.mem_of_getElem? (i := 1) rfl⟩, fun _ h => absurd h List.not_mem_nil⟩⟩) (List.forall_mem_cons.mpr ⟨Or.inr (Or.inr (nek (by decide))), fun _ h => absurd h List.not_mem_nil⟩) (List.forall_mem_cons.mpr ⟨Or.inr (Or.inr (nek (by decide))), fun _ h => absurd h List.not_mem_nil⟩) (List.forall_mem_cons.mpr ⟨Or.inr (Or.inl (by decide)), List.forall_mem_cons.mpr ⟨Or.inr (Or.inl (by decide)), List.forall_mem_cons.mpr ⟨Or.inl (by decide), List.forall_mem_cons.mpr ⟨Or.inr (Or.inl (by decide)), fun _ h => absurd h List.not_mem_nil⟩⟩⟩⟩) ?_
  refine p_putrF (c := 10) (Cn := "ThreadCharts$Parser") dX10_init_23 1 tb_228 (by decide) (by decide) (Or.inr rfl) h0 rfl rfl rfl rfl rfl (fun q => absurd q (by decide)) (up h9 a0 1 (a0 + 3)) rfl ?_
  replace hf := hb_e hf
  generalize up h9 a0 1 (a0 + 3) = h13 at hf ⊢
  refine p_aload_n dX10_init_26 rfl 0 rfl ?_
  refine p_bipush dX10_init_27 (by decide) (by decide) ?_
  obtain ⟨c14, hf⟩ := hf
  refine p_anew7 (z := a0 + 6) dX10_init_29 tb_76 (by decide) c14 ⟨by decide, by decide⟩ ?_
  replace hf := hb_e hf
  generalize nw h13 (fun _ => -1) = h15 at hf ⊢
  refine p_norm (kn' := [vr 103 (a0 + 6) 6, vr 5 (a0 + 3) 0, vr 100 (a0 + 3 + 1) 5, vr 100 (a0 + 3 + 2) 5, vr 8 (a0 + 1) 0, vr 102 (a0 + 1 + 1) 120]) (cells' := 6) (slots' := 146) rfl rfl rfl ?_
  refine p_putaF (c := 10) dX10_init_32 2 tb_229 (by decide) (by decide) (Or.inr rfl) h0 rfl rfl rfl rfl rfl (by decide) (fun q => absurd q (by decide)) (up h15 a0 2 (a0 + 6)) rfl ?_
  replace hf := hb_e hf
  generalize up h15 a0 2 (a0 + 6) = h16 at hf ⊢
  refine p_aload_n dX10_init_35 rfl 0 rfl ?_
  refine p_bipush dX10_init_36 (by decide) (by decide) ?_
  obtain ⟨c17, hf⟩ := hf
  refine p_anew0 (z := a0 + 7) dX10_init_38 tb_78 (by decide) c17 ⟨by decide, by decide⟩ ?_
  replace hf := hb_e hf
  generalize nw h16 (fun _ => -1) = h18 at hf ⊢
  refine p_norm (kn' := [vr 104 (a0 + 7) 6, vr 103 (a0 + 6) 6, vr 5 (a0 + 3) 0, vr 100 (a0 + 3 + 1) 5, vr 100 (a0 + 3 + 2) 5, vr 8 (a0 + 1) 0, vr 102 (a0 + 1 + 1) 120]) (cells' := 7) (slots' := 152) rfl rfl rfl ?_
  refine p_putaF (c := 10) dX10_init_41 4 tb_231 (by decide) (by decide) (Or.inr rfl) h0 rfl rfl rfl rfl rfl (by decide) (fun q => absurd q (by decide)) (up h18 a0 4 (a0 + 7)) rfl ?_
  replace hf := hb_e hf
  generalize up h18 a0 4 (a0 + 7) = h19 at hf ⊢
  refine p_aload_n dX10_init_44 rfl 0 rfl ?_
  refine p_iconst dX10_init_45 (by decide) ?_
  obtain ⟨c20, hf⟩ := hf
  refine p_newa (t := 100) (ti := 0) (ty := .int) (z := a0 + 8) dX10_init_46 rfl (Or.inl ⟨rfl, rfl⟩) rfl tb_75 (by decide) c20 ⟨by decide, by decide⟩ ?_
  replace hf := hb_e hf
  generalize nw h19 (fun _ => 0) = h21 at hf ⊢
  refine p_norm (kn' := [vr 100 (a0 + 8) 4, vr 104 (a0 + 7) 6, vr 103 (a0 + 6) 6, vr 5 (a0 + 3) 0, vr 100 (a0 + 3 + 1) 5, vr 100 (a0 + 3 + 2) 5, vr 8 (a0 + 1) 0, vr 102 (a0 + 1 + 1) 120]) (cells' := 8) (slots' := 156) rfl rfl rfl ?_
  refine p_putaF (c := 10) dX10_init_48 6 tb_233 (by decide) (by decide) (Or.inr rfl) h0 rfl rfl rfl rfl rfl (by decide) (fun q => absurd q (by decide)) (up h21 a0 6 (a0 + 8)) rfl ?_
  replace hf := hb_e hf
  generalize up h21 a0 6 (a0 + 8) = h22 at hf ⊢
  refine p_aload_n dX10_init_51 rfl 0 rfl ?_
  obtain ⟨c23, hf⟩ := hf
  refine p_new (c := 1) (z := a0 + 9) dX10_init_52 (by decide) tb_80 tb_81 tb_4 c23 ⟨by decide, by decide⟩ ?_
  replace hf := hb_e hf
  generalize nw h22 (dfl 1) = h24 at hf ⊢
  refine p_norm (kn' := [vr 100 (a0 + 8) 4, vr 104 (a0 + 7) 6, vr 103 (a0 + 6) 6, vr 5 (a0 + 3) 0, vr 100 (a0 + 3 + 1) 5, vr 100 (a0 + 3 + 2) 5, vr 8 (a0 + 1) 0, vr 102 (a0 + 1 + 1) 120]) (cells' := 9) (slots' := 162) rfl rfl rfl ?_
  refine p_dup dX10_init_55 (fun _ q => by cases q) ?_
  refine p_callINv (c := 1) dX10_init_56 M_X1_init rfl [] (t_X1_init _ _ _ (nnk h0 (by decide)) hf) ok_X1_init rfl (by decide) (nnk h0 (by decide)) rfl tb_82 rfl tb_83 rfl (Nat.le_of_ble_eq_true rfl) ⟨rfl, rfl⟩ ⟨by decide, by decide⟩ ⟨by decide, by decide⟩ (fun _ h25 hf => ?_)
  refine p_norm (kn' := [vr 100 (a0 + 9 + 1) 40, vr 100 (a0 + 9 + 2) 40, vr 100 (a0 + 9 + 3) 40, vr 100 (a0 + 9 + 4) 40, vr 100 (a0 + 9 + 5) 40, vr 100 (a0 + 8) 4, vr 104 (a0 + 7) 6, vr 103 (a0 + 6) 6, vr 5 (a0 + 3) 0, vr 100 (a0 + 3 + 1) 5, vr 100 (a0 + 3 + 2) 5, vr 8 (a0 + 1) 0, vr 102 (a0 + 1 + 1) 120]) (cells' := 14) (slots' := 362) rfl rfl rfl ?_
  obtain ⟨c26, hf⟩ := hf
  obtain ⟨c27, hf⟩ := hf
  obtain ⟨c28, hf⟩ := hf
  obtain ⟨c29, hf⟩ := hf
  obtain ⟨c30, hf⟩ := hf
  obtain ⟨c31, hf⟩ := hf
  refine p_seal (c := 1) (by decide) (nnk h0 (by decide)) c31 (show ∀ y ∈ ([(0, 1, 100, 40), (1, 2, 100, 40), (2, 3, 100, 40), (3, 4, 100, 40), (4, 5, 100, 40)] : List (Nat × Nat × Kd)), _ from List.forall_mem_cons.mpr ⟨⟨c26, List.mem_of_getElem? (i := 0) rfl⟩, List.forall_mem_cons.mpr ⟨⟨c27, List.mem_of_getElem? (i := 1) rfl⟩, List.forall_mem_cons.mpr ⟨⟨c28, List.mem_of_getElem? (i := 2) rfl⟩, List.forall_mem_cons.mpr ⟨⟨c29, List.mem_of_getElem? (i := 3) rfl⟩, List.forall_mem_cons.mpr ⟨⟨c30, List.mem_of_getElem? (i := 4) rfl⟩, fun _ h => absurd h List.not_mem_nil⟩⟩⟩⟩⟩) (List.forall_mem_cons.mpr ⟨Or.inr (Or.inr (nek (by decide))), fun _ h => absurd h List.not_mem_nil⟩) (List.forall_mem_cons.mpr ⟨Or.inr (Or.inr (nek (by decide))), fun _ h => absurd h List.not_mem_nil⟩) (List.forall_mem_cons.mpr ⟨Or.inr (Or.inl (by decide)), List.forall_mem_cons.mpr ⟨Or.inr (Or.inl (by decide)), List.forall_mem_cons.mpr ⟨Or.inr (Or.inl (by decide)), List.forall_mem_cons.mpr ⟨Or.inr (Or.inl (by decide)), List.forall_mem_cons.mpr ⟨Or.inr (Or.inl (by decide)), List.forall_mem_cons.mpr ⟨Or.inr (Or.inl (by decide)), List.forall_mem_cons.mpr ⟨Or.inr (Or.inl (by decide)), List.forall_mem_cons.mpr ⟨Or.inr (Or.inl (by decide)), List.forall_mem_cons.mpr ⟨Or.inl (by decide), List.forall_mem_cons.mpr ⟨Or.inr (Or.inl (by decide)), List.forall_mem_cons.mpr ⟨Or.inr (Or.inl (by decide)), List.forall_mem_cons.mpr ⟨Or.inl (by decide), List.forall_mem_cons.mpr ⟨Or.inr (Or.inl (by decide)), fun _ h => absurd h List.not_mem_nil⟩⟩⟩⟩⟩⟩⟩⟩⟩⟩⟩⟩⟩) ?_
  refine p_putrF (c := 10) (Cn := "ThreadCharts$Errata") dX10_init_59 11 tb_238 (by decide) (by decide) (Or.inr rfl) h0 rfl rfl rfl rfl rfl (fun q => absurd q (by decide)) (up h25 a0 11 (a0 + 9)) rfl ?_
  replace hf := hb_e hf
  generalize up h25 a0 11 (a0 + 9) = h32 at hf ⊢
  refine p_aload_n dX10_init_62 rfl 0 rfl ?_
  obtain ⟨c33, hf⟩ := hf
  refine p_new (c := 6) (z := a0 + 15) dX10_init_63 (by decide) tb_106 tb_107 tb_5 c33 ⟨by decide, by decide⟩ ?_
  replace hf := hb_e hf
  generalize nw h32 (dfl 6) = h34 at hf ⊢
  refine p_norm (kn' := [vr 1 (a0 + 9) 0, vr 100 (a0 + 9 + 1) 40, vr 100 (a0 + 9 + 2) 40, vr 100 (a0 + 9 + 3) 40, vr 100 (a0 + 9 + 4) 40, vr 100 (a0 + 9 + 5) 40, vr 100 (a0 + 8) 4, vr 104 (a0 + 7) 6, vr 103 (a0 + 6) 6, vr 5 (a0 + 3) 0, vr 100 (a0 + 3 + 1) 5, vr 100 (a0 + 3 + 2) 5, vr 8 (a0 + 1) 0, vr 102 (a0 + 1 + 1) 120]) (cells' := 15) (slots' := 371) rfl rfl rfl ?_
  refine p_dup dX10_init_66 (fun _ q => by cases q) ?_
  refine p_callINv (c := 6) dX10_init_67 M_X6_init rfl [] (t_X6_init _ _ _ (nnk h0 (by decide)) hf) ok_X6_init rfl (by decide) (nnk h0 (by decide)) rfl tb_108 rfl tb_109 rfl (Nat.le_of_ble_eq_true rfl) ⟨rfl, rfl⟩ ⟨by decide, by decide⟩ ⟨by decide, by decide⟩ (fun _ h35 hf => ?_)
  refine p_norm (kn' := [vr 100 (a0 + 15 + 1) 60, vr 100 (a0 + 15 + 2) 60, vr 100 (a0 + 15 + 3) 60, vr 100 (a0 + 15 + 4) 60, vr 100 (a0 + 15 + 5) 60, vr 100 (a0 + 15 + 6) 60, vr 100 (a0 + 15 + 7) 19, vr 1 (a0 + 9) 0, vr 100 (a0 + 9 + 1) 40, vr 100 (a0 + 9 + 2) 40, vr 100 (a0 + 9 + 3) 40, vr 100 (a0 + 9 + 4) 40, vr 100 (a0 + 9 + 5) 40, vr 100 (a0 + 8) 4, vr 104 (a0 + 7) 6, vr 103 (a0 + 6) 6, vr 5 (a0 + 3) 0, vr 100 (a0 + 3 + 1) 5, vr 100 (a0 + 3 + 2) 5, vr 8 (a0 + 1) 0, vr 102 (a0 + 1 + 1) 120]) (cells' := 22) (slots' := 750) rfl rfl rfl ?_
  obtain ⟨c36, hf⟩ := hf
  obtain ⟨c37, hf⟩ := hf
  obtain ⟨c38, hf⟩ := hf
  obtain ⟨c39, hf⟩ := hf
  obtain ⟨c40, hf⟩ := hf
  obtain ⟨c41, hf⟩ := hf
  obtain ⟨c42, hf⟩ := hf
  obtain ⟨c43, hf⟩ := hf
  refine p_seal (c := 6) (by decide) (nnk h0 (by decide)) c43 (show ∀ y ∈ ([(0, 1, 100, 60), (1, 2, 100, 60), (2, 3, 100, 60), (3, 4, 100, 60), (4, 5, 100, 60), (5, 6, 100, 60), (6, 7, 100, 19)] : List (Nat × Nat × Kd)), _ from List.forall_mem_cons.mpr ⟨⟨c36, List.mem_of_getElem? (i := 0) rfl⟩, List.forall_mem_cons.mpr ⟨⟨c37, List.mem_of_getElem? (i := 1) rfl⟩, List.forall_mem_cons.mpr ⟨⟨c38, List.mem_of_getElem? (i := 2) rfl⟩, List.forall_mem_cons.mpr ⟨⟨c39, List.mem_of_getElem? (i := 3) rfl⟩, List.forall_mem_cons.mpr ⟨⟨c40, List.mem_of_getElem? (i := 4) rfl⟩, List.forall_mem_cons.mpr ⟨⟨c41, List.mem_of_getElem? (i := 5) rfl⟩, List.forall_mem_cons.mpr ⟨⟨c42, List.mem_of_getElem? (i := 6) rfl⟩, fun _ h => absurd h List.not_mem_nil⟩⟩⟩⟩⟩⟩⟩) (List.forall_mem_cons.mpr ⟨Or.inr (Or.inr (nek (by decide))), fun _ h => absurd h List.not_mem_nil⟩) (List.forall_mem_cons.mpr ⟨Or.inr (Or.inr (nek (by decide))), fun _ h => absurd h List.not_mem_nil⟩) (List.forall_mem_cons.mpr ⟨Or.inr (Or.inl (by decide)), List.forall_mem_cons.mpr ⟨Or.inr (Or.inl (by decide)), List.forall_mem_cons.mpr ⟨Or.inr (Or.inl (by decide)), List.forall_mem_cons.mpr ⟨Or.inr (Or.inl (by decide)), List.forall_mem_cons.mpr ⟨Or.inr (Or.inl (by decide)), List.forall_mem_cons.mpr ⟨Or.inr (Or.inl (by decide)), List.forall_mem_cons.mpr ⟨Or.inr (Or.inl (by decide)), List.forall_mem_cons.mpr ⟨Or.inl (by decide), List.forall_mem_cons.mpr ⟨Or.inr (Or.inl (by decide)), List.forall_mem_cons.mpr ⟨Or.inr (Or.inl (by decide)), List.forall_mem_cons.mpr ⟨Or.inr (Or.inl (by decide)), List.forall_mem_cons.mpr ⟨Or.inr (Or.inl (by decide)), List.forall_mem_cons.mpr ⟨Or.inr (Or.inl (by decide)), List.forall_mem_cons.mpr ⟨Or.inr (Or.inl (by decide)), List.forall_mem_cons.mpr ⟨Or.inr (Or.inl (by decide)), List.forall_mem_cons.mpr ⟨Or.inr (Or.inl (by decide)), List.forall_mem_cons.mpr ⟨Or.inl (by decide), List.forall_mem_cons.mpr ⟨Or.inr (Or.inl (by decide)), List.forall_mem_cons.mpr ⟨Or.inr (Or.inl (by decide)), List.forall_mem_cons.mpr ⟨Or.inl (by decide), List.forall_mem_cons.mpr ⟨Or.inr (Or.inl (by decide)), fun _ h => absurd h List.not_mem_nil⟩⟩⟩⟩⟩⟩⟩⟩⟩⟩⟩⟩⟩⟩⟩⟩⟩⟩⟩⟩⟩) ?_
  refine p_putrF (c := 10) (Cn := "ThreadCharts$Reports") dX10_init_70 12 tb_239 (by decide) (by decide) (Or.inr rfl) h0 rfl rfl rfl rfl rfl (fun q => absurd q (by decide)) (up h35 a0 12 (a0 + 15)) rfl ?_
  replace hf := hb_e hf
  generalize up h35 a0 12 (a0 + 15) = h44 at hf ⊢
  refine p_aload_n dX10_init_73 rfl 0 rfl ?_
  refine p_iconst dX10_init_74 (by decide) ?_
  obtain ⟨c45, hf⟩ := hf
  refine p_newa (t := 101) (ti := 1) (ty := .long) (z := a0 + 23) dX10_init_75 rfl (Or.inr (Or.inl ⟨rfl, rfl⟩)) rfl tb_169 (by decide) c45 ⟨by decide, by decide⟩ ?_
  replace hf := hb_e hf
  generalize nw h44 (fun _ => 0) = h46 at hf ⊢
  refine p_norm (kn' := [vr 101 (a0 + 23) 4, vr 6 (a0 + 15) 0, vr 100 (a0 + 15 + 1) 60, vr 100 (a0 + 15 + 2) 60, vr 100 (a0 + 15 + 3) 60, vr 100 (a0 + 15 + 4) 60, vr 100 (a0 + 15 + 5) 60, vr 100 (a0 + 15 + 6) 60, vr 100 (a0 + 15 + 7) 19, vr 1 (a0 + 9) 0, vr 100 (a0 + 9 + 1) 40, vr 100 (a0 + 9 + 2) 40, vr 100 (a0 + 9 + 3) 40, vr 100 (a0 + 9 + 4) 40, vr 100 (a0 + 9 + 5) 40, vr 100 (a0 + 8) 4, vr 104 (a0 + 7) 6, vr 103 (a0 + 6) 6, vr 5 (a0 + 3) 0, vr 100 (a0 + 3 + 1) 5, vr 100 (a0 + 3 + 2) 5, vr 8 (a0 + 1) 0, vr 102 (a0 + 1 + 1) 120]) (cells' := 23) (slots' := 754) rfl rfl rfl ?_
  refine p_putaF (c := 10) dX10_init_77 13 tb_240 (by decide) (by decide) (Or.inr rfl) h0 rfl rfl rfl rfl rfl (by decide) (fun q => absurd q (by decide)) (up h46 a0 13 (a0 + 23)) rfl ?_
  replace hf := hb_e hf
  generalize up h46 a0 13 (a0 + 23) = h47 at hf ⊢
  refine p_aload_n dX10_init_80 rfl 0 rfl ?_
  obtain ⟨c48, hf⟩ := hf
  refine p_new (c := 9) (z := a0 + 24) dX10_init_81 (by decide) tb_146 tb_147 tb_6 c48 ⟨by decide, by decide⟩ ?_
  replace hf := hb_e hf
  generalize nw h47 (dfl 9) = h49 at hf ⊢
  refine p_norm (kn' := [vr 101 (a0 + 23) 4, vr 6 (a0 + 15) 0, vr 100 (a0 + 15 + 1) 60, vr 100 (a0 + 15 + 2) 60, vr 100 (a0 + 15 + 3) 60, vr 100 (a0 + 15 + 4) 60, vr 100 (a0 + 15 + 5) 60, vr 100 (a0 + 15 + 6) 60, vr 100 (a0 + 15 + 7) 19, vr 1 (a0 + 9) 0, vr 100 (a0 + 9 + 1) 40, vr 100 (a0 + 9 + 2) 40, vr 100 (a0 + 9 + 3) 40, vr 100 (a0 + 9 + 4) 40, vr 100 (a0 + 9 + 5) 40, vr 100 (a0 + 8) 4, vr 104 (a0 + 7) 6, vr 103 (a0 + 6) 6, vr 5 (a0 + 3) 0, vr 100 (a0 + 3 + 1) 5, vr 100 (a0 + 3 + 2) 5, vr 8 (a0 + 1) 0, vr 102 (a0 + 1 + 1) 120]) (cells' := 24) (slots' := 758) rfl rfl rfl ?_
  refine p_dup dX10_init_84 (fun _ q => by cases q) ?_
  refine p_callINv (c := 9) dX10_init_85 M_X9_init rfl [] (t_X9_init _ _ _ (nnk h0 (by decide)) hf) ok_X9_init rfl (by decide) (nnk h0 (by decide)) rfl tb_148 rfl tb_149 rfl (Nat.le_of_ble_eq_true rfl) ⟨rfl, rfl⟩ ⟨by decide, by decide⟩ ⟨by decide, by decide⟩ (fun _ h50 hf => ?_)
  refine p_norm (kn' := [vr 101 (a0 + 23) 4, vr 6 (a0 + 15) 0, vr 100 (a0 + 15 + 1) 60, vr 100 (a0 + 15 + 2) 60, vr 100 (a0 + 15 + 3) 60, vr 100 (a0 + 15 + 4) 60, vr 100 (a0 + 15 + 5) 60, vr 100 (a0 + 15 + 6) 60, vr 100 (a0 + 15 + 7) 19, vr 1 (a0 + 9) 0, vr 100 (a0 + 9 + 1) 40, vr 100 (a0 + 9 + 2) 40, vr 100 (a0 + 9 + 3) 40, vr 100 (a0 + 9 + 4) 40, vr 100 (a0 + 9 + 5) 40, vr 100 (a0 + 8) 4, vr 104 (a0 + 7) 6, vr 103 (a0 + 6) 6, vr 5 (a0 + 3) 0, vr 100 (a0 + 3 + 1) 5, vr 100 (a0 + 3 + 2) 5, vr 8 (a0 + 1) 0, vr 102 (a0 + 1 + 1) 120]) (cells' := 24) (slots' := 758) rfl rfl rfl ?_
  obtain ⟨c51, hf⟩ := hf
  refine p_seal (c := 9) (by decide) (nnk h0 (by decide)) c51 (show ∀ y ∈ ([] : List (Nat × Nat × Kd)), _ from fun _ h => absurd h List.not_mem_nil) (List.forall_mem_cons.mpr ⟨Or.inr (Or.inr (nek (by decide))), fun _ h => absurd h List.not_mem_nil⟩) (List.forall_mem_cons.mpr ⟨Or.inr (Or.inr (nek (by decide))), fun _ h => absurd h List.not_mem_nil⟩) (List.forall_mem_cons.mpr ⟨Or.inr (Or.inl (by decide)), List.forall_mem_cons.mpr ⟨Or.inl (by decide), List.forall_mem_cons.mpr ⟨Or.inr (Or.inl (by decide)), List.forall_mem_cons.mpr ⟨Or.inr (Or.inl (by decide)), List.forall_mem_cons.mpr ⟨Or.inr (Or.inl (by decide)), List.forall_mem_cons.mpr ⟨Or.inr (Or.inl (by decide)), List.forall_mem_cons.mpr ⟨Or.inr (Or.inl (by decide)), List.forall_mem_cons.mpr ⟨Or.inr (Or.inl (by decide)), List.forall_mem_cons.mpr ⟨Or.inr (Or.inl (by decide)), List.forall_mem_cons.mpr ⟨Or.inl (by decide), List.forall_mem_cons.mpr ⟨Or.inr (Or.inl (by decide)), List.forall_mem_cons.mpr ⟨Or.inr (Or.inl (by decide)), List.forall_mem_cons.mpr ⟨Or.inr (Or.inl (by decide)), List.forall_mem_cons.mpr ⟨Or.inr (Or.inl (by decide)), List.forall_mem_cons.mpr ⟨Or.inr (Or.inl (by decide)), List.forall_mem_cons.mpr ⟨Or.inr (Or.inl (by decide)), List.forall_mem_cons.mpr ⟨Or.inr (Or.inl (by decide)), List.forall_mem_cons.mpr ⟨Or.inr (Or.inl (by decide)), List.forall_mem_cons.mpr ⟨Or.inl (by decide), List.forall_mem_cons.mpr ⟨Or.inr (Or.inl (by decide)), List.forall_mem_cons.mpr ⟨Or.inr (Or.inl (by decide)), List.forall_mem_cons.mpr ⟨Or.inl (by decide), List.forall_mem_cons.mpr ⟨Or.inr (Or.inl (by decide)), fun _ h => absurd h List.not_mem_nil⟩⟩⟩⟩⟩⟩⟩⟩⟩⟩⟩⟩⟩⟩⟩⟩⟩⟩⟩⟩⟩⟩⟩) ?_
  refine p_putrF (c := 10) (Cn := "ThreadCharts$Walk") dX10_init_88 14 tb_241 (by decide) (by decide) (Or.inr rfl) h0 rfl rfl rfl rfl rfl (fun q => absurd q (by decide)) (up h50 a0 14 (a0 + 24)) rfl ?_
  replace hf := hb_e hf
  generalize up h50 a0 14 (a0 + 24) = h52 at hf ⊢
  refine p_aload_n dX10_init_91 rfl 0 rfl ?_
  obtain ⟨c53, hf⟩ := hf
  refine p_new (c := 3) (z := a0 + 25) dX10_init_92 (by decide) tb_170 tb_171 tb_7 c53 ⟨by decide, by decide⟩ ?_
  replace hf := hb_e hf
  generalize nw h52 (dfl 3) = h54 at hf ⊢
  refine p_norm (kn' := [vr 9 (a0 + 24) 0, vr 101 (a0 + 23) 4, vr 6 (a0 + 15) 0, vr 100 (a0 + 15 + 1) 60, vr 100 (a0 + 15 + 2) 60, vr 100 (a0 + 15 + 3) 60, vr 100 (a0 + 15 + 4) 60, vr 100 (a0 + 15 + 5) 60, vr 100 (a0 + 15 + 6) 60, vr 100 (a0 + 15 + 7) 19, vr 1 (a0 + 9) 0, vr 100 (a0 + 9 + 1) 40, vr 100 (a0 + 9 + 2) 40, vr 100 (a0 + 9 + 3) 40, vr 100 (a0 + 9 + 4) 40, vr 100 (a0 + 9 + 5) 40, vr 100 (a0 + 8) 4, vr 104 (a0 + 7) 6, vr 103 (a0 + 6) 6, vr 5 (a0 + 3) 0, vr 100 (a0 + 3 + 1) 5, vr 100 (a0 + 3 + 2) 5, vr 8 (a0 + 1) 0, vr 102 (a0 + 1 + 1) 120]) (cells' := 25) (slots' := 762) rfl rfl rfl ?_
  refine p_dup dX10_init_95 (fun _ q => by cases q) ?_
  refine p_callINv (c := 3) dX10_init_96 M_X3_init rfl [] (t_X3_init _ _ _ (nnk h0 (by decide)) hf) ok_X3_init rfl (by decide) (nnk h0 (by decide)) rfl tb_172 rfl tb_173 rfl (Nat.le_of_ble_eq_true rfl) ⟨rfl, rfl⟩ ⟨by decide, by decide⟩ ⟨by decide, by decide⟩ (fun _ h55 hf => ?_)
  refine p_norm (kn' := [vr 100 (a0 + 25 + 1) 4, vr 101 (a0 + 25 + 2) 4, vr 9 (a0 + 24) 0, vr 101 (a0 + 23) 4, vr 6 (a0 + 15) 0, vr 100 (a0 + 15 + 1) 60, vr 100 (a0 + 15 + 2) 60, vr 100 (a0 + 15 + 3) 60, vr 100 (a0 + 15 + 4) 60, vr 100 (a0 + 15 + 5) 60, vr 100 (a0 + 15 + 6) 60, vr 100 (a0 + 15 + 7) 19, vr 1 (a0 + 9) 0, vr 100 (a0 + 9 + 1) 40, vr 100 (a0 + 9 + 2) 40, vr 100 (a0 + 9 + 3) 40, vr 100 (a0 + 9 + 4) 40, vr 100 (a0 + 9 + 5) 40, vr 100 (a0 + 8) 4, vr 104 (a0 + 7) 6, vr 103 (a0 + 6) 6, vr 5 (a0 + 3) 0, vr 100 (a0 + 3 + 1) 5, vr 100 (a0 + 3 + 2) 5, vr 8 (a0 + 1) 0, vr 102 (a0 + 1 + 1) 120]) (cells' := 27) (slots' := 770) rfl rfl rfl ?_
  obtain ⟨c56, hf⟩ := hf
  obtain ⟨c57, hf⟩ := hf
  obtain ⟨c58, hf⟩ := hf
  refine p_seal (c := 3) (by decide) (nnk h0 (by decide)) c58 (show ∀ y ∈ ([(0, 1, 100, 4), (1, 2, 101, 4)] : List (Nat × Nat × Kd)), _ from List.forall_mem_cons.mpr ⟨⟨c56, List.mem_of_getElem? (i := 0) rfl⟩, List.forall_mem_cons.mpr ⟨⟨c57, List.mem_of_getElem? (i := 1) rfl⟩, fun _ h => absurd h List.not_mem_nil⟩⟩) (List.forall_mem_cons.mpr ⟨Or.inr (Or.inr (nek (by decide))), fun _ h => absurd h List.not_mem_nil⟩) (List.forall_mem_cons.mpr ⟨Or.inr (Or.inr (nek (by decide))), fun _ h => absurd h List.not_mem_nil⟩) (List.forall_mem_cons.mpr ⟨Or.inr (Or.inl (by decide)), List.forall_mem_cons.mpr ⟨Or.inr (Or.inl (by decide)), List.forall_mem_cons.mpr ⟨Or.inl (by decide), List.forall_mem_cons.mpr ⟨Or.inr (Or.inl (by decide)), List.forall_mem_cons.mpr ⟨Or.inl (by decide), List.forall_mem_cons.mpr ⟨Or.inr (Or.inl (by decide)), List.forall_mem_cons.mpr ⟨Or.inr (Or.inl (by decide)), List.forall_mem_cons.mpr ⟨Or.inr (Or.inl (by decide)), List.forall_mem_cons.mpr ⟨Or.inr (Or.inl (by decide)), List.forall_mem_cons.mpr ⟨Or.inr (Or.inl (by decide)), List.forall_mem_cons.mpr ⟨Or.inr (Or.inl (by decide)), List.forall_mem_cons.mpr ⟨Or.inr (Or.inl (by decide)), List.forall_mem_cons.mpr ⟨Or.inl (by decide), List.forall_mem_cons.mpr ⟨Or.inr (Or.inl (by decide)), List.forall_mem_cons.mpr ⟨Or.inr (Or.inl (by decide)), List.forall_mem_cons.mpr ⟨Or.inr (Or.inl (by decide)), List.forall_mem_cons.mpr ⟨Or.inr (Or.inl (by decide)), List.forall_mem_cons.mpr ⟨Or.inr (Or.inl (by decide)), List.forall_mem_cons.mpr ⟨Or.inr (Or.inl (by decide)), List.forall_mem_cons.mpr ⟨Or.inr (Or.inl (by decide)), List.forall_mem_cons.mpr ⟨Or.inr (Or.inl (by decide)), List.forall_mem_cons.mpr ⟨Or.inl (by decide), List.forall_mem_cons.mpr ⟨Or.inr (Or.inl (by decide)), List.forall_mem_cons.mpr ⟨Or.inr (Or.inl (by decide)), List.forall_mem_cons.mpr ⟨Or.inl (by decide), List.forall_mem_cons.mpr ⟨Or.inr (Or.inl (by decide)), fun _ h => absurd h List.not_mem_nil⟩⟩⟩⟩⟩⟩⟩⟩⟩⟩⟩⟩⟩⟩⟩⟩⟩⟩⟩⟩⟩⟩⟩⟩⟩⟩) ?_
  refine p_putrF (c := 10) (Cn := "ThreadCharts$OrderSearch") dX10_init_99 15 tb_242 (by decide) (by decide) (Or.inr rfl) h0 rfl rfl rfl rfl rfl (fun q => absurd q (by decide)) (up h55 a0 15 (a0 + 25)) rfl ?_
  replace hf := hb_e hf
  generalize up h55 a0 15 (a0 + 25) = h59 at hf ⊢
  refine p_aload_n dX10_init_102 rfl 0 rfl ?_
  obtain ⟨c60, hf⟩ := hf
  refine p_new (c := 2) (z := a0 + 28) dX10_init_103 (by decide) tb_191 tb_192 tb_8 c60 ⟨by decide, by decide⟩ ?_
  replace hf := hb_e hf
  generalize nw h59 (dfl 2) = h61 at hf ⊢
  refine p_norm (kn' := [vr 3 (a0 + 25) 0, vr 100 (a0 + 25 + 1) 4, vr 101 (a0 + 25 + 2) 4, vr 9 (a0 + 24) 0, vr 101 (a0 + 23) 4, vr 6 (a0 + 15) 0, vr 100 (a0 + 15 + 1) 60, vr 100 (a0 + 15 + 2) 60, vr 100 (a0 + 15 + 3) 60, vr 100 (a0 + 15 + 4) 60, vr 100 (a0 + 15 + 5) 60, vr 100 (a0 + 15 + 6) 60, vr 100 (a0 + 15 + 7) 19, vr 1 (a0 + 9) 0, vr 100 (a0 + 9 + 1) 40, vr 100 (a0 + 9 + 2) 40, vr 100 (a0 + 9 + 3) 40, vr 100 (a0 + 9 + 4) 40, vr 100 (a0 + 9 + 5) 40, vr 100 (a0 + 8) 4, vr 104 (a0 + 7) 6, vr 103 (a0 + 6) 6, vr 5 (a0 + 3) 0, vr 100 (a0 + 3 + 1) 5, vr 100 (a0 + 3 + 2) 5, vr 8 (a0 + 1) 0, vr 102 (a0 + 1 + 1) 120]) (cells' := 28) (slots' := 779) rfl rfl rfl ?_
  refine p_dup dX10_init_106 (fun _ q => by cases q) ?_
  refine p_callINv (c := 2) dX10_init_107 M_X2_init rfl [] (t_X2_init _ _ _ (nnk h0 (by decide)) hf) ok_X2_init rfl (by decide) (nnk h0 (by decide)) rfl tb_193 rfl tb_194 rfl (Nat.le_of_ble_eq_true rfl) ⟨rfl, rfl⟩ ⟨by decide, by decide⟩ ⟨by decide, by decide⟩ (fun _ h62 hf => ?_)
  refine p_norm (kn' := [vr 100 (a0 + 28 + 1) 200, vr 100 (a0 + 28 + 2) 240, vr 100 (a0 + 28 + 3) 60, vr 100 (a0 + 28 + 4) 12, vr 3 (a0 + 25) 0, vr 100 (a0 + 25 + 1) 4, vr 101 (a0 + 25 + 2) 4, vr 9 (a0 + 24) 0, vr 101 (a0 + 23) 4, vr 6 (a0 + 15) 0, vr 100 (a0 + 15 + 1) 60, vr 100 (a0 + 15 + 2) 60, vr 100 (a0 + 15 + 3) 60, vr 100 (a0 + 15 + 4) 60, vr 100 (a0 + 15 + 5) 60, vr 100 (a0 + 15 + 6) 60, vr 100 (a0 + 15 + 7) 19, vr 1 (a0 + 9) 0, vr 100 (a0 + 9 + 1) 40, vr 100 (a0 + 9 + 2) 40, vr 100 (a0 + 9 + 3) 40, vr 100 (a0 + 9 + 4) 40, vr 100 (a0 + 9 + 5) 40, vr 100 (a0 + 8) 4, vr 104 (a0 + 7) 6, vr 103 (a0 + 6) 6, vr 5 (a0 + 3) 0, vr 100 (a0 + 3 + 1) 5, vr 100 (a0 + 3 + 2) 5, vr 8 (a0 + 1) 0, vr 102 (a0 + 1 + 1) 120]) (cells' := 32) (slots' := 1291) rfl rfl rfl ?_
  obtain ⟨c63, hf⟩ := hf
  obtain ⟨c64, hf⟩ := hf
  obtain ⟨c65, hf⟩ := hf
  obtain ⟨c66, hf⟩ := hf
  obtain ⟨c67, hf⟩ := hf
  refine p_seal (c := 2) (by decide) (nnk h0 (by decide)) c67 (show ∀ y ∈ ([(0, 1, 100, 200), (1, 2, 100, 240), (2, 3, 100, 60), (3, 4, 100, 12)] : List (Nat × Nat × Kd)), _ from List.forall_mem_cons.mpr ⟨⟨c63, List.mem_of_getElem? (i := 0) rfl⟩, List.forall_mem_cons.mpr ⟨⟨c64, List.mem_of_getElem? (i := 1) rfl⟩, List.forall_mem_cons.mpr ⟨⟨c65, List.mem_of_getElem? (i := 2) rfl⟩, List.forall_mem_cons.mpr ⟨⟨c66, List.mem_of_getElem? (i := 3) rfl⟩, fun _ h => absurd h List.not_mem_nil⟩⟩⟩⟩) (List.forall_mem_cons.mpr ⟨Or.inr (Or.inr (nek (by decide))), fun _ h => absurd h List.not_mem_nil⟩) (List.forall_mem_cons.mpr ⟨Or.inr (Or.inr (nek (by decide))), fun _ h => absurd h List.not_mem_nil⟩) (List.forall_mem_cons.mpr ⟨Or.inr (Or.inl (by decide)), List.forall_mem_cons.mpr ⟨Or.inr (Or.inl (by decide)), List.forall_mem_cons.mpr ⟨Or.inr (Or.inl (by decide)), List.forall_mem_cons.mpr ⟨Or.inr (Or.inl (by decide)), List.forall_mem_cons.mpr ⟨Or.inl (by decide), List.forall_mem_cons.mpr ⟨Or.inr (Or.inl (by decide)), List.forall_mem_cons.mpr ⟨Or.inr (Or.inl (by decide)), List.forall_mem_cons.mpr ⟨Or.inl (by decide), List.forall_mem_cons.mpr ⟨Or.inr (Or.inl (by decide)), List.forall_mem_cons.mpr ⟨Or.inl (by decide), List.forall_mem_cons.mpr ⟨Or.inr (Or.inl (by decide)), List.forall_mem_cons.mpr ⟨Or.inr (Or.inl (by decide)), List.forall_mem_cons.mpr ⟨Or.inr (Or.inl (by decide)), List.forall_mem_cons.mpr ⟨Or.inr (Or.inl (by decide)), List.forall_mem_cons.mpr ⟨Or.inr (Or.inl (by decide)), List.forall_mem_cons.mpr ⟨Or.inr (Or.inl (by decide)), List.forall_mem_cons.mpr ⟨Or.inr (Or.inl (by decide)), List.forall_mem_cons.mpr ⟨Or.inl (by decide), List.forall_mem_cons.mpr ⟨Or.inr (Or.inl (by decide)), List.forall_mem_cons.mpr ⟨Or.inr (Or.inl (by decide)), List.forall_mem_cons.mpr ⟨Or.inr (Or.inl (by decide)), List.forall_mem_cons.mpr ⟨Or.inr (Or.inl (by decide)), List.forall_mem_cons.mpr ⟨Or.inr (Or.inl (by decide)), List.forall_mem_cons.mpr ⟨Or.inr (Or.inl (by decide)), List.forall_mem_cons.mpr ⟨Or.inr (Or.inl (by decide)), List.forall_mem_cons.mpr ⟨Or.inr (Or.inl (by decide)), List.forall_mem_cons.mpr ⟨Or.inl (by decide), List.forall_mem_cons.mpr ⟨Or.inr (Or.inl (by decide)), List.forall_mem_cons.mpr ⟨Or.inr (Or.inl (by decide)), List.forall_mem_cons.mpr ⟨Or.inl (by decide), List.forall_mem_cons.mpr ⟨Or.inr (Or.inl (by decide)), fun _ h => absurd h List.not_mem_nil⟩⟩⟩⟩⟩⟩⟩⟩⟩⟩⟩⟩⟩⟩⟩⟩⟩⟩⟩⟩⟩⟩⟩⟩⟩⟩⟩⟩⟩⟩⟩) ?_
  refine p_putrF (c := 10) (Cn := "ThreadCharts$HeapSearch") dX10_init_110 16 tb_243 (by decide) (by decide) (Or.inr rfl) h0 rfl rfl rfl rfl rfl (fun q => absurd q (by decide)) (up h62 a0 16 (a0 + 28)) rfl ?_
  replace hf := hb_e hf
  generalize up h62 a0 16 (a0 + 28) = h68 at hf ⊢
  exact p_vret dX10_init_113 rfl (by decide) (by decide) (List.forall_mem_cons.mpr ⟨List.mem_of_getElem? (i := 30) rfl, List.forall_mem_cons.mpr ⟨List.mem_of_getElem? (i := 27) rfl, List.forall_mem_cons.mpr ⟨List.mem_of_getElem? (i := 26) rfl, List.forall_mem_cons.mpr ⟨List.mem_of_getElem? (i := 25) rfl, List.forall_mem_cons.mpr ⟨List.mem_of_getElem? (i := 24) rfl, List.forall_mem_cons.mpr ⟨List.mem_of_getElem? (i := 18) rfl, List.forall_mem_cons.mpr ⟨List.mem_of_getElem? (i := 10) rfl, List.forall_mem_cons.mpr ⟨List.mem_of_getElem? (i := 9) rfl, List.forall_mem_cons.mpr ⟨List.mem_of_getElem? (i := 8) rfl, List.forall_mem_cons.mpr ⟨List.mem_of_getElem? (i := 5) rfl, List.forall_mem_cons.mpr ⟨List.mem_of_getElem? (i := 0) rfl, fun _ h => absurd h List.not_mem_nil⟩⟩⟩⟩⟩⟩⟩⟩⟩⟩⟩) hf
theorem ok_X10_init : mOK M_X10_init 0 := ⟨tb_20, tb_1, by decide +kernel⟩
abbrev M_X10_feed : MD := (yX10_feed, cX10_feed, 6, some .int)
abbrev rm_X10_feed : Room := { frames := 1, cells := 0, slots := 0, locals := 22 }
def w_X10_feed (a0 x1 x2 x3 x4 x5 : Int) (h : Hh) (K : Int → Hh → Prop) : Prop := if w32 ((h (a0 + 1) 1) + 20) ≤ 120 then (w_X8_add (a0 + 1) x1 h (fun _ h1 => w_X8_add (a0 + 1) x2 h1 (fun _ h2 => w_X8_add (a0 + 1) x3 h2 (fun _ h3 => w_X8_add (a0 + 1) x4 h3 (fun _ h4 => w_X8_add (a0 + 1) x5 h4 (fun _ h5 => K (h5 (a0 + 1) 1) h5)))))) else (K (-1) h)
set_option maxRecDepth 100000 in
set_option maxHeartbeats 4000000 in
theorem t_X10_feed {G : Gx} (a0 x1 x2 x3 x4 x5 : Int) (h : Hh) (K : Int → Hh → Prop) (h0 : 0 ≤ a0) (hf : w_X10_feed a0 x1 x2 x3 x4 x5 h K) : CT G M_X10_feed rm_X10_feed 0 0 [] [vr 10 a0 0, vi x1, vi x2, vi x3, vi x4, vi x5] h K := by
  unfold w_X10_feed at hf
  refine CT.of (ls0 := [(0, vr 10 a0 0), (1, vi x1), (2, vi x2), (3, vi x3), (4, vi x4), (5, vi x5)]) (plainFor_of_name (by decide +kernel)) (by decide +kernel) (Nat.le_of_ble_eq_true rfl) rfl rfl ?_
  refine p_aload_n dX10_feed_0 rfl 0 rfl ?_
  refine p_lay (c := 10) (tq := 8) (n := 0) dX10_feed_1 0 1 tb_227 (by decide) (by decide) h0 (by decide) (by decide) (fun _ => rfl) (vr 8 (a0 + 1) 0) rfl ?_
  refine p_getN (c := 8) (vi (h (a0 + 1) 1)) dX10_feed_4 1 tb_31 (by decide) (by decide) (Or.inl rfl) (nnk h0 (by decide)) rfl rfl ?_
  refine p_bipush dX10_feed_7 (by decide) (by decide) ?_
  refine p_iadd dX10_feed_9 ?_
  refine p_bipush dX10_feed_10 (by decide) (by decide) ?_
  refine p_icmp_le (tgt := 17) (q := w32 ((h (a0 + 1) 1) + 20) ≤ 120) dX10_feed_12 (by decide) Iff.rfl (fun hc => ?_) (fun hc => ?_)
  · replace hf := Eq.mp (if_pos hc) hf
    refine p_aload_n dX10_feed_17 rfl 0 rfl ?_
    refine p_lay (c := 10) (tq := 8) (n := 0) dX10_feed_18 0 1 tb_227 (by decide) (by decide) h0 (by decide) (by decide) (fun _ => rfl) (vr 8 (a0 + 1) 0) rfl ?_
    refine p_iload_n dX10_feed_21 rfl 1 rfl ?_
    refine p_callVNv dX10_feed_22 M_X8_add rfl [vi x1] (t_X8_add _ _ _ _ (nnk h0 (by decide)) hf) ok_X8_add rfl (c := 8) (by decide) (nnk h0 (by decide)) rfl tb_283 ⟨tb_285, ts_0⟩ rfl (Nat.le_of_ble_eq_true rfl) ⟨rfl, rfl⟩ ⟨by decide, by decide⟩ ⟨by decide, by decide⟩ (fun _ h1 hf => ?_)
    refine p_aload_n dX10_feed_25 rfl 0 rfl ?_
    refine p_lay (c := 10) (tq := 8) (n := 0) dX10_feed_26 0 1 tb_227 (by decide) (by decide) h0 (by decide) (by decide) (fun _ => rfl) (vr 8 (a0 + 1) 0) rfl ?_
    refine p_iload_n dX10_feed_29 rfl 2 rfl ?_
    refine p_callVNv dX10_feed_30 M_X8_add rfl [vi x2] (t_X8_add _ _ _ _ (nnk h0 (by decide)) hf) ok_X8_add rfl (c := 8) (by decide) (nnk h0 (by decide)) rfl tb_283 ⟨tb_285, ts_0⟩ rfl (Nat.le_of_ble_eq_true rfl) ⟨rfl, rfl⟩ ⟨by decide, by decide⟩ ⟨by decide, by decide⟩ (fun _ h2 hf => ?_)
    refine p_aload_n dX10_feed_33 rfl 0 rfl ?_
    refine p_lay (c := 10) (tq := 8) (n := 0) dX10_feed_34 0 1 tb_227 (by decide) (by decide) h0 (by decide) (by decide) (fun _ => rfl) (vr 8 (a0 + 1) 0) rfl ?_
    refine p_iload_n dX10_feed_37 rfl 3 rfl ?_
    refine p_callVNv dX10_feed_38 M_X8_add rfl [vi x3] (t_X8_add _ _ _ _ (nnk h0 (by decide)) hf) ok_X8_add rfl (c := 8) (by decide) (nnk h0 (by decide)) rfl tb_283 ⟨tb_285, ts_0⟩ rfl (Nat.le_of_ble_eq_true rfl) ⟨rfl, rfl⟩ ⟨by decide, by decide⟩ ⟨by decide, by decide⟩ (fun _ h3 hf => ?_)
    refine p_aload_n dX10_feed_41 rfl 0 rfl ?_
    refine p_lay (c := 10) (tq := 8) (n := 0) dX10_feed_42 0 1 tb_227 (by decide) (by decide) h0 (by decide) (by decide) (fun _ => rfl) (vr 8 (a0 + 1) 0) rfl ?_
    refine p_iload dX10_feed_45 4 rfl ?_
    refine p_callVNv dX10_feed_47 M_X8_add rfl [vi x4] (t_X8_add _ _ _ _ (nnk h0 (by decide)) hf) ok_X8_add rfl (c := 8) (by decide) (nnk h0 (by decide)) rfl tb_283 ⟨tb_285, ts_0⟩ rfl (Nat.le_of_ble_eq_true rfl) ⟨rfl, rfl⟩ ⟨by decide, by decide⟩ ⟨by decide, by decide⟩ (fun _ h4 hf => ?_)
    refine p_aload_n dX10_feed_50 rfl 0 rfl ?_
    refine p_lay (c := 10) (tq := 8) (n := 0) dX10_feed_51 0 1 tb_227 (by decide) (by decide) h0 (by decide) (by decide) (fun _ => rfl) (vr 8 (a0 + 1) 0) rfl ?_
    refine p_iload dX10_feed_54 5 rfl ?_
    refine p_callVNv dX10_feed_56 M_X8_add rfl [vi x5] (t_X8_add _ _ _ _ (nnk h0 (by decide)) hf) ok_X8_add rfl (c := 8) (by decide) (nnk h0 (by decide)) rfl tb_283 ⟨tb_285, ts_0⟩ rfl (Nat.le_of_ble_eq_true rfl) ⟨rfl, rfl⟩ ⟨by decide, by decide⟩ ⟨by decide, by decide⟩ (fun _ h5 hf => ?_)
    refine p_aload_n dX10_feed_59 rfl 0 rfl ?_
    refine p_lay (c := 10) (tq := 8) (n := 0) dX10_feed_60 0 1 tb_227 (by decide) (by decide) h0 (by decide) (by decide) (fun _ => rfl) (vr 8 (a0 + 1) 0) rfl ?_
    refine p_getN (c := 8) (vi (h5 (a0 + 1) 1)) dX10_feed_63 1 tb_31 (by decide) (by decide) (Or.inl rfl) (nnk h0 (by decide)) rfl rfl ?_
    exact p_iret dX10_feed_66 rfl (by decide) (by decide) (fun _ h => absurd h List.not_mem_nil) hf
  · replace hf := Eq.mp (if_neg hc) hf
    refine p_iconst dX10_feed_15 (by decide) ?_
    exact p_iret dX10_feed_16 rfl (by decide) (by decide) (fun _ h => absurd h List.not_mem_nil) hf
theorem ok_X10_feed : mOK M_X10_feed 5 := ⟨tb_282, tb_1, by decide +kernel⟩
abbrev M_X10_end : MD := (yX10_end, cX10_end, 2, some .boolean)
abbrev rm_X10_end : Room := { frames := 0, cells := 0, slots := 0, locals := 0 }
def w_X10_end_15 (K : Int → Hh → Prop) (a0 : Int) (h : Hh) : Prop := K 0 h
set_option maxRecDepth 100000 in
set_option maxHeartbeats 4000000 in
theorem t_X10_end_15 {G : Gx} {n0 : Int} {K : Int → Hh → Prop} {a0 : Int} (h0 : 0 ≤ a0)  (h : Hh) (hf : w_X10_end_15 K  a0  h) : PW G M_X10_end rm_X10_end 0 0 [] n0 K 15 [] [] [] 0 0 h := by
  unfold w_X10_end_15 at hf
  refine p_iconst dX10_end_15 (by decide) ?_
  exact p_zret dX10_end_16 rfl (by decide) (by decide) (fun _ h => absurd h List.not_mem_nil) (Or.inl rfl) hf
def w_X10_end (a0 x1 : Int) (h : Hh) (K : Int → Hh → Prop) : Prop := if x1 < 0 then (w_X10_end_15 K  a0  h) else (if x1 ≤ h (a0 + 1) 1 then (hb (up h (a0 + 1) 1 x1) fun h1 => K 1 h1) else (w_X10_end_15 K  a0  h))
set_option maxRecDepth 100000 in
set_option maxHeartbeats 4000000 in
theorem t_X10_end {G : Gx} (a0 x1 : Int) (h : Hh) (K : Int → Hh → Prop) (h0 : 0 ≤ a0) (hf : w_X10_end a0 x1 h K) : CT G M_X10_end rm_X10_end 0 0 [] [vr 10 a0 0, vi x1] h K := by
  unfold w_X10_end at hf
  refine CT.of (ls0 := [(0, vr 10 a0 0), (1, vi x1)]) (plainFor_of_name (by decide +kernel)) (by decide +kernel) (Nat.le_of_ble_eq_true rfl) rfl rfl ?_
  refine p_iload_n dX10_end_0 rfl 1 rfl ?_
  refine p_if_lt (tgt := 15) (q := x1 < 0) dX10_end_1 (by decide) Iff.rfl (fun hc => ?_) (fun hc => ?_)
  · replace hf := Eq.mp (if_pos hc) hf
    refine p_sub (ls' := []) [] rfl ?_
    exact t_X10_end_15 h0   _ hf
  · replace hf := Eq.mp (if_neg hc) hf
    refine p_iload_n dX10_end_4 rfl 1 rfl ?_
    refine p_aload_n dX10_end_5 rfl 0 rfl ?_
    refine p_lay (c := 10) (tq := 8) (n := 0) dX10_end_6 0 1 tb_227 (by decide) (by decide) h0 (by decide) (by decide) (fun _ => rfl) (vr 8 (a0 + 1) 0) rfl ?_
    refine p_getN (c := 8) (vi (h (a0 + 1) 1)) dX10_end_9 1 tb_31 (by decide) (by decide) (Or.inl rfl) (nnk h0 (by decide)) rfl rfl ?_
    refine p_icmp_le (tgt := 17) (q := x1 ≤ h (a0 + 1) 1) dX10_end_12 (by decide) Iff.rfl (fun hc => ?_) (fun hc => ?_)
    · replace hf := Eq.mp (if_pos hc) hf
      refine p_aload_n dX10_end_17 rfl 0 rfl ?_
      refine p_lay (c := 10) (tq := 8) (n := 0) dX10_end_18 0 1 tb_227 (by decide) (by decide) h0 (by decide) (by decide) (fun _ => rfl) (vr 8 (a0 + 1) 0) rfl ?_
      refine p_iload_n dX10_end_21 rfl 1 rfl ?_
      refine p_putiN (c := 8) dX10_end_22 1 tb_31 (by decide) (by decide) (Or.inl rfl) (nnk h0 (by decide)) rfl rfl (fun _ => by decide) (up h (a0 + 1) 1 x1) rfl ?_
      replace hf := hb_e hf
      generalize up h (a0 + 1) 1 x1 = h1 at hf ⊢
      refine p_iconst dX10_end_25 (by decide) ?_
      exact p_zret dX10_end_26 rfl (by decide) (by decide) (fun _ h => absurd h List.not_mem_nil) (Or.inr rfl) hf
    · replace hf := Eq.mp (if_neg hc) hf
      refine p_sub (ls' := []) [] rfl ?_
      exact t_X10_end_15 h0   _ hf
theorem ok_X10_end : mOK M_X10_end 1 := ⟨tb_290, tb_1, by decide +kernel⟩
abbrev M_X10_fault : MD := (yX10_fault, cX10_fault, 1, some .int)
abbrev rm_X10_fault : Room := { frames := 5, cells := 0, slots := 0, locals := 113 }
def w_X10_fault (a0 : Int) (h : Hh) (K : Int → Hh → Prop) : Prop := w_X5_faultOf (a0 + 3) (a0 + 1) h (fun r1 h2 => K r1 h2)
set_option maxRecDepth 100000 in
set_option maxHeartbeats 4000000 in
theorem t_X10_fault {G : Gx} (a0 : Int) (h : Hh) (K : Int → Hh → Prop) (h0 : 0 ≤ a0) (hf : w_X10_fault a0 h K) : CT G M_X10_fault rm_X10_fault 0 0 [] [vr 10 a0 0] h K := by
  unfold w_X10_fault at hf
  refine CT.of (ls0 := [(0, vr 10 a0 0)]) (plainFor_of_name (by decide +kernel)) (by decide +kernel) (Nat.le_of_ble_eq_true rfl) rfl rfl ?_
  refine p_aload_n dX10_fault_0 rfl 0 rfl ?_
  refine p_lay (c := 10) (tq := 5) (n := 0) dX10_fault_1 1 3 tb_228 (by decide) (by decide) h0 (by decide) (by decide) (fun _ => rfl) (vr 5 (a0 + 3) 0) rfl ?_
  refine p_aload_n dX10_fault_4 rfl 0 rfl ?_
  refine p_lay (c := 10) (tq := 8) (n := 0) dX10_fault_5 0 1 tb_227 (by decide) (by decide) h0 (by decide) (by decide) (fun _ => rfl) (vr 8 (a0 + 1) 0) rfl ?_
  refine p_callVNi dX10_fault_8 M_X5_faultOf (Or.inl rfl) [vr 8 (a0 + 1) 0] (t_X5_faultOf _ _ _ _ (nnk h0 (by decide)) hf) ok_X5_faultOf rfl (c := 5) (by decide) (nnk h0 (by decide)) rfl tb_295 ⟨tb_297, ts_1⟩ rfl (Nat.le_of_ble_eq_true rfl) ⟨rfl, rfl⟩ ⟨by decide, by decide⟩ ⟨by decide, by decide⟩ (fun r1 h2 hf => ?_)
  exact p_iret dX10_fault_11 rfl (by decide) (by decide) (fun _ h => absurd h List.not_mem_nil) hf
theorem ok_X10_fault : mOK M_X10_fault 0 := ⟨tb_294, tb_1, by decide +kernel⟩
abbrev M_X10_rule : MD := (yX10_rule, cX10_rule, 1, some .int)
abbrev rm_X10_rule : Room := { frames := 5, cells := 11, slots := 268, locals := 113 }
def w_X10_rule_24 (K : Int → Hh → Prop) (n0 a0 : Int) (h : Hh) : Prop := K (-1) h
set_option maxRecDepth 100000 in
set_option maxHeartbeats 4000000 in
theorem t_X10_rule_24 {G : Gx} {n0 : Int} {K : Int → Hh → Prop} {a0 : Int} (h0 : 0 ≤ a0)  (h : Hh) (hf : w_X10_rule_24 K  n0 a0  h) : PW G M_X10_rule rm_X10_rule 11 268 [] n0 K 24 [] [] [] 0 0 h := by
  unfold w_X10_rule_24 at hf
  refine p_iconst dX10_rule_24 (by decide) ?_
  exact p_iret dX10_rule_25 rfl (by decide) (by decide) (fun _ h => absurd h List.not_mem_nil) hf
def w_X10_rule (a0 : Int) (h : Hh) (K : Int → Hh → Prop) : Prop := if h a0 3 ≥ 6 then (w_X10_rule_24 K  (h (-1) 0) a0  h) else (w_X5_faultOf (a0 + 3) (a0 + 1) h (fun r1 h2 => if r1 = (-1) then (vb (h2 (-1) 0) fun z3 => hb (nw h2 (dfl 7)) fun h5 => 0 ≤ z3 ∧ (w_X7_init z3 (a0 + 3) h5 (fun _ h7 => (h7 z3 2 = z3 + 1) ∧ ((h7 z3 3 = z3 + 2) ∧ ((h7 z3 4 = z3 + 3) ∧ ((h7 z3 5 = z3 + 4) ∧ ((h7 z3 6 = z3 + 10) ∧ ((h (-1) 0 ≤ z3) ∧ (((0 : Int) ≤ h2 a0 3 ∧ (h2 a0 3 : Int) < 6) ∧ (hb (up h7 (a0 + 6) (h2 a0 3) z3) fun h15 => hb (up h15 a0 3 (w32 ((h15 a0 3) + 1))) fun h16 => hb (up h16 (a0 + 1) 1 0) fun h17 => K (w32 ((h17 a0 3) - 1)) h17)))))))))) else (w_X10_rule_24 K  (h (-1) 0) a0  h2)))
set_option maxRecDepth 100000 in
set_option maxHeartbeats 4000000 in
theorem t_X10_rule {G : Gx} (a0 : Int) (h : Hh) (K : Int → Hh → Prop) (h0 : 0 ≤ a0) (hf : w_X10_rule a0 h K) : CT G M_X10_rule rm_X10_rule 11 268 [] [vr 10 a0 0] h K := by
  unfold w_X10_rule at hf
  refine CT.of (ls0 := [(0, vr 10 a0 0)]) (plainFor_of_name (by decide +kernel)) (by decide +kernel) (Nat.le_of_ble_eq_true rfl) rfl rfl ?_
  refine p_aload_n dX10_rule_0 rfl 0 rfl ?_
  refine p_get (c := 10) (vi (h a0 3)) dX10_rule_1 3 tb_230 (by decide) (by decide) (Or.inl rfl) h0 rfl rfl ?_
  refine p_bipush dX10_rule_4 (by decide) (by decide) ?_
  refine p_icmp_ge (tgt := 24) (q := h a0 3 ≥ 6) dX10_rule_6 (by decide) Iff.rfl (fun hc => ?_) (fun hc => ?_)
  · replace hf := Eq.mp (if_pos hc) hf
    refine p_sub (ls' := []) [] rfl ?_
    exact t_X10_rule_24 h0   _ hf
  · replace hf := Eq.mp (if_neg hc) hf
    refine p_aload_n dX10_rule_9 rfl 0 rfl ?_
    refine p_lay (c := 10) (tq := 5) (n := 0) dX10_rule_10 1 3 tb_228 (by decide) (by decide) h0 (by decide) (by decide) (fun _ => rfl) (vr 5 (a0 + 3) 0) rfl ?_
    refine p_aload_n dX10_rule_13 rfl 0 rfl ?_
    refine p_lay (c := 10) (tq := 8) (n := 0) dX10_rule_14 0 1 tb_227 (by decide) (by decide) h0 (by decide) (by decide) (fun _ => rfl) (vr 8 (a0 + 1) 0) rfl ?_
    refine p_callVNi dX10_rule_17 M_X5_faultOf (Or.inl rfl) [vr 8 (a0 + 1) 0] (t_X5_faultOf _ _ _ _ (nnk h0 (by decide)) hf) ok_X5_faultOf rfl (c := 5) (by decide) (nnk h0 (by decide)) rfl tb_295 ⟨tb_297, ts_1⟩ rfl (Nat.le_of_ble_eq_true rfl) ⟨rfl, rfl⟩ ⟨by decide, by decide⟩ ⟨by decide, by decide⟩ (fun r1 h2 hf => ?_)
    refine p_iconst dX10_rule_20 (by decide) ?_
    refine p_icmp_eq (tgt := 26) (q := r1 = (-1)) dX10_rule_21 (by decide) Iff.rfl (fun hc => ?_) (fun hc => ?_)
    · replace hf := Eq.mp (if_pos hc) hf
      refine p_aload_n dX10_rule_26 rfl 0 rfl ?_
      refine p_lay (c := 10) (tq := 103) (n := 6) dX10_rule_27 2 6 tb_229 (by decide) (by decide) h0 (by decide) (by decide) (fun _ => rfl) (vr 103 (a0 + 6) 6) rfl ?_
      refine p_aload_n dX10_rule_30 rfl 0 rfl ?_
      refine p_get (c := 10) (vi (h2 a0 3)) dX10_rule_31 3 tb_230 (by decide) (by decide) (Or.inl rfl) h0 rfl rfl ?_
      replace hf := vb_e hf
      generalize q4 : h2 (-1) 0 = z3 at hf
      refine p_new (c := 7) (z := z3) dX10_rule_34 (by decide) tb_76 tb_339 tb_10 q4 ⟨by decide, by decide⟩ ?_
      replace hf := hb_e hf
      generalize nw h2 (dfl 7) = h5 at hf ⊢
      refine p_norm (kn' := []) (cells' := 1) (slots' := 8) rfl rfl rfl ?_
      refine p_dup dX10_rule_37 (fun _ q => by cases q) ?_
      refine p_aload_n dX10_rule_38 rfl 0 rfl ?_
      refine p_lay (c := 10) (tq := 5) (n := 0) dX10_rule_39 1 3 tb_228 (by decide) (by decide) h0 (by decide) (by decide) (fun _ => rfl) (vr 5 (a0 + 3) 0) rfl ?_
      obtain ⟨c6, hf⟩ := hf
      refine p_callINv (c := 7) dX10_rule_42 M_X7_init rfl [vr 5 (a0 + 3) 0] (t_X7_init _ _ _ _ c6 hf) ok_X7_init rfl (by decide) c6 rfl tb_340 rfl tb_341 rfl (Nat.le_of_ble_eq_true rfl) ⟨rfl, rfl⟩ ⟨by decide, by decide⟩ ⟨by decide, by decide⟩ (fun _ h7 hf => ?_)
      refine p_norm (kn' := [vr 100 (z3 + 1) 5, vr 100 (z3 + 2) 5, vr 100 (z3 + 3) 5, vr 105 (z3 + 4) 5, vr 100 (z3 + 10) 40]) (cells' := 11) (slots' := 268) rfl rfl rfl ?_
      obtain ⟨c8, hf⟩ := hf
      obtain ⟨c9, hf⟩ := hf
      obtain ⟨c10, hf⟩ := hf
      obtain ⟨c11, hf⟩ := hf
      obtain ⟨c12, hf⟩ := hf
      obtain ⟨c13, hf⟩ := hf
      refine p_seal (c := 7) (by decide) c6 c13 (show ∀ y ∈ ([(2, 1, 100, 5), (3, 2, 100, 5), (4, 3, 100, 5), (5, 4, 105, 5), (6, 10, 100, 40)] : List (Nat × Nat × Kd)), _ from List.forall_mem_cons.mpr ⟨⟨c8, List.mem_of_getElem? (i := 0) rfl⟩, List.forall_mem_cons.mpr ⟨⟨c9, List.mem_of_getElem? (i := 1) rfl⟩, List.forall_mem_cons.mpr ⟨⟨c10, List.mem_of_getElem? (i := 2) rfl⟩, List.forall_mem_cons.mpr ⟨⟨c11, List.mem_of_getElem? (i := 3) rfl⟩, List.forall_mem_cons.mpr ⟨⟨c12, List.mem_of_getElem? (i := 4) rfl⟩, fun _ h => absurd h List.not_mem_nil⟩⟩⟩⟩⟩) (List.forall_mem_cons.mpr ⟨Or.inl (by decide), fun _ h => absurd h List.not_mem_nil⟩) (List.forall_mem_cons.mpr ⟨trivial, List.forall_mem_cons.mpr ⟨Or.inr (Or.inl (by decide)), fun _ h => absurd h List.not_mem_nil⟩⟩) (List.forall_mem_cons.mpr ⟨Or.inr (Or.inl (by decide)), List.forall_mem_cons.mpr ⟨Or.inr (Or.inl (by decide)), List.forall_mem_cons.mpr ⟨Or.inr (Or.inl (by decide)), List.forall_mem_cons.mpr ⟨Or.inr (Or.inl (by decide)), List.forall_mem_cons.mpr ⟨Or.inr (Or.inl (by decide)), fun _ h => absurd h List.not_mem_nil⟩⟩⟩⟩⟩) ?_
      obtain ⟨c14, hf⟩ := hf
      refine p_aast7 dX10_rule_45 (nnk h0 (by decide)) c14 c6 ?_
      replace hf := hb_e hf
      generalize up h7 (a0 + 6) (h2 a0 3) z3 = h15 at hf ⊢
      refine p_aload_n dX10_rule_46 rfl 0 rfl ?_
      refine p_dup dX10_rule_47 (fun _ q => by cases q) ?_
      refine p_get (c := 10) (vi (h15 a0 3)) dX10_rule_48 3 tb_230 (by decide) (by decide) (Or.inl rfl) h0 rfl rfl ?_
      refine p_iconst dX10_rule_51 (by decide) ?_
      refine p_iadd dX10_rule_52 ?_
      refine p_puti (c := 10) dX10_rule_53 3 tb_230 (by decide) (by decide) (Or.inl rfl) h0 rfl rfl (fun _ => by decide) (up h15 a0 3 (w32 ((h15 a0 3) + 1))) rfl ?_
      replace hf := hb_e hf
      generalize up h15 a0 3 (w32 ((h15 a0 3) + 1)) = h16 at hf ⊢
      refine p_aload_n dX10_rule_56 rfl 0 rfl ?_
      refine p_lay (c := 10) (tq := 8) (n := 0) dX10_rule_57 0 1 tb_227 (by decide) (by decide) h0 (by decide) (by decide) (fun _ => rfl) (vr 8 (a0 + 1) 0) rfl ?_
      refine p_iconst dX10_rule_60 (by decide) ?_
      refine p_putiN (c := 8) dX10_rule_61 1 tb_31 (by decide) (by decide) (Or.inl rfl) (nnk h0 (by decide)) rfl rfl (fun _ => by decide) (up h16 (a0 + 1) 1 0) rfl ?_
      replace hf := hb_e hf
      generalize up h16 (a0 + 1) 1 0 = h17 at hf ⊢
      refine p_aload_n dX10_rule_64 rfl 0 rfl ?_
      refine p_get (c := 10) (vi (h17 a0 3)) dX10_rule_65 3 tb_230 (by decide) (by decide) (Or.inl rfl) h0 rfl rfl ?_
      refine p_iconst dX10_rule_68 (by decide) ?_
      refine p_isub dX10_rule_69 ?_
      exact p_iret dX10_rule_70 rfl (by decide) (by decide) (fun _ h => absurd h List.not_mem_nil) hf
    · replace hf := Eq.mp (if_neg hc) hf
      refine p_sub (ls' := []) [] rfl ?_
      exact t_X10_rule_24 h0   _ hf
theorem ok_X10_rule : mOK M_X10_rule 0 := ⟨tb_338, tb_1, by decide +kernel⟩
