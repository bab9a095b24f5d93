abbrev M_X4_put : MD := (yX4_put, cX4_put, 4, none)
abbrev rm_X4_put : Room := { frames := 0, cells := 0, slots := 0, locals := 0 }
def w_X4_put (a0 x1 x2 x3 : Int) (h : Hh) (K : Int → Hh → Prop) : Prop := hb (up h a0 0 x1) fun h1 => hb (up h1 a0 1 x2) fun h2 => hb (up h2 a0 2 x3) fun h3 => K 0 h3
set_option maxRecDepth 100000 in
set_option maxHeartbeats 4000000 in
theorem t_X4_put {G : Gx} (a0 x1 x2 x3 : Int) (h : Hh) (K : Int → Hh → Prop) (h0 : 0 ≤ a0) (hf : w_X4_put a0 x1 x2 x3 h K) : CT G M_X4_put rm_X4_put 0 0 [] [vr 4 a0 0, vi x1, vi x2, vi x3] h K := by
  unfold w_X4_put at hf
  refine CT.of (ls0 := [(0, vr 4 a0 0), (1, vi x1), (2, vi x2), (3, vi x3)]) (plainFor_of_name (by decide +kernel)) (by decide +kernel) (Nat.le_of_ble_eq_true rfl) rfl rfl ?_
  refine p_aload_n dX4_put_0 rfl 0 rfl ?_
  refine p_iload_n dX4_put_1 rfl 1 rfl ?_
  refine p_puti (c := 4) dX4_put_2 0 tb_479 (by decide) (by decide) (Or.inl rfl) h0 rfl rfl (fun _ => by decide) (up h a0 0 x1) rfl ?_
  replace hf := hb_e hf
  generalize up h a0 0 x1 = h1 at hf ⊢
  refine p_aload_n dX4_put_5 rfl 0 rfl ?_
  refine p_iload_n dX4_put_6 rfl 2 rfl ?_
  refine p_puti (c := 4) dX4_put_7 1 tb_480 (by decide) (by decide) (Or.inl rfl) h0 rfl rfl (fun _ => by decide) (up h1 a0 1 x2) rfl ?_
  replace hf := hb_e hf
  generalize up h1 a0 1 x2 = h2 at hf ⊢
  refine p_aload_n dX4_put_10 rfl 0 rfl ?_
  refine p_iload_n dX4_put_11 rfl 3 rfl ?_
  refine p_puti (c := 4) dX4_put_12 2 tb_481 (by decide) (by decide) (Or.inl rfl) h0 rfl rfl (fun _ => by decide) (up h2 a0 2 x3) rfl ?_
  replace hf := hb_e hf
  generalize up h2 a0 2 x3 = h3 at hf ⊢
  exact p_vret dX4_put_15 rfl (by decide) (by decide) (fun _ h => absurd h List.not_mem_nil) hf
theorem ok_X4_put : mOK M_X4_put 3 := ⟨tb_750, tb_13, by decide +kernel⟩
abbrev M_X4_lies : MD := (yX4_lies, cX4_lies, 5, some .long)
abbrev rm_X4_lies : Room := { frames := 0, cells := 0, slots := 0, locals := 0 }
def w_X4_lies (a0 x1 : Int) (h : Hh) (K : Int → Hh → Prop) : Prop := if x1 > h a0 0 then (vb (w64 (x1 - (h a0 0))) fun z1 => K (w64 ((w64 ((w64 ((h a0 0) + (w64 (Int.tdiv (w64 ((h a0 0) * (h a0 1))) 1000)))) + z1)) + (w64 (Int.tdiv (w64 (z1 * (h a0 2))) 1000)))) h) else (K (w64 (x1 + (w64 (Int.tdiv (w64 (x1 * (h a0 1))) 1000)))) h)
set_option maxRecDepth 100000 in
set_option maxHeartbeats 4000000 in
theorem t_X4_lies {G : Gx} (a0 x1 : Int) (h : Hh) (K : Int → Hh → Prop) (h0 : 0 ≤ a0) (hf : w_X4_lies a0 x1 h K) : CT G M_X4_lies rm_X4_lies 0 0 [] [vr 4 a0 0, vl x1] h K := by
  unfold w_X4_lies at hf
  refine CT.of (ls0 := [(0, vr 4 a0 0), (1, vl x1)]) (plainFor_of_name (by decide +kernel)) (by decide +kernel) (Nat.le_of_ble_eq_true rfl) rfl rfl ?_
  refine p_lload_n dX4_lies_0 rfl 1 rfl ?_
  refine p_aload_n dX4_lies_1 rfl 0 rfl ?_
  refine p_get (c := 4) (vi (h a0 0)) dX4_lies_2 0 tb_479 (by decide) (by decide) (Or.inl rfl) h0 rfl rfl ?_
  refine p_i2l dX4_lies_5 ?_
  refine p_lcmp (z := (if x1 < h a0 0 then (-1) else if x1 = h a0 0 then 0 else 1)) dX4_lies_6 rfl ?_
  refine p_if_gt (tgt := 24) (q := x1 > h a0 0) dX4_lies_7 (by decide) (lc_gt x1 (h a0 0)) (fun hc => ?_) (fun hc => ?_)
  · replace hf := Eq.mp (if_pos hc) hf
    refine p_lload_n dX4_lies_24 rfl 1 rfl ?_
    refine p_aload_n dX4_lies_25 rfl 0 rfl ?_
    refine p_get (c := 4) (vi (h a0 0)) dX4_lies_26 0 tb_479 (by decide) (by decide) (Or.inl rfl) h0 rfl rfl ?_
    refine p_i2l dX4_lies_29 ?_
    refine p_lsub dX4_lies_30 ?_
    refine p_lstore_n (ls' := [(3, vl (w64 (x1 - (h a0 0)))), (0, vr 4 a0 0), (1, vl x1)]) dX4_lies_31 rfl (by decide) rfl ?_
    replace hf := vb_e hf
    generalize (w64 (x1 - (h a0 0))) = z1 at hf ⊢
    refine p_aload_n dX4_lies_32 rfl 1 rfl ?_
    refine p_get (c := 4) (vi (h a0 0)) dX4_lies_33 0 tb_479 (by decide) (by decide) (Or.inl rfl) h0 rfl rfl ?_
    refine p_i2l dX4_lies_36 ?_
    refine p_aload_n dX4_lies_37 rfl 1 rfl ?_
    refine p_get (c := 4) (vi (h a0 0)) dX4_lies_38 0 tb_479 (by decide) (by decide) (Or.inl rfl) h0 rfl rfl ?_
    refine p_i2l dX4_lies_41 ?_
    refine p_aload_n dX4_lies_42 rfl 1 rfl ?_
    refine p_get (c := 4) (vi (h a0 1)) dX4_lies_43 1 tb_480 (by decide) (by decide) (Or.inl rfl) h0 rfl rfl ?_
    refine p_i2l dX4_lies_46 ?_
    refine p_lmul dX4_lies_47 ?_
    refine p_ldc2 (z := 1000) dX4_lies_48 tb_614 (by decide) ?_
    refine p_ldiv dX4_lies_51 (by decide) ?_
    refine p_ladd dX4_lies_52 ?_
    refine p_lload_n dX4_lies_53 rfl 0 rfl ?_
    refine p_ladd dX4_lies_54 ?_
    refine p_lload_n dX4_lies_55 rfl 0 rfl ?_
    refine p_aload_n dX4_lies_56 rfl 1 rfl ?_
    refine p_get (c := 4) (vi (h a0 2)) dX4_lies_57 2 tb_481 (by decide) (by decide) (Or.inl rfl) h0 rfl rfl ?_
    refine p_i2l dX4_lies_60 ?_
    refine p_lmul dX4_lies_61 ?_
    refine p_ldc2 (z := 1000) dX4_lies_62 tb_614 (by decide) ?_
    refine p_ldiv dX4_lies_65 (by decide) ?_
    refine p_ladd dX4_lies_66 ?_
    exact p_lret dX4_lies_67 rfl (by decide) (by decide) (fun _ h => absurd h List.not_mem_nil) hf
  · replace hf := Eq.mp (if_neg hc) hf
    refine p_lload_n dX4_lies_10 rfl 1 rfl ?_
    refine p_lload_n dX4_lies_11 rfl 1 rfl ?_
    refine p_aload_n dX4_lies_12 rfl 0 rfl ?_
    refine p_get (c := 4) (vi (h a0 1)) dX4_lies_13 1 tb_480 (by decide) (by decide) (Or.inl rfl) h0 rfl rfl ?_
    refine p_i2l dX4_lies_16 ?_
    refine p_lmul dX4_lies_17 ?_
    refine p_ldc2 (z := 1000) dX4_lies_18 tb_614 (by decide) ?_
    refine p_ldiv dX4_lies_21 (by decide) ?_
    refine p_ladd dX4_lies_22 ?_
    exact p_lret dX4_lies_23 rfl (by decide) (by decide) (fun _ h => absurd h List.not_mem_nil) hf
theorem ok_X4_lies : mOK M_X4_lies 1 := ⟨tb_613, tb_13, by decide +kernel⟩
abbrev M_J9_abs_067f4 : MD := (yJ9_abs_067f4, cJ9_abs_067f4, 2, some .long)
abbrev rm_J9_abs_067f4 : Room := { frames := 0, cells := 0, slots := 0, locals := 0 }
def w_J9_abs_067f4_12 (K : Int → Hh → Prop) (s0 : Int) (h : Hh) : Prop := K s0 h
set_option maxRecDepth 100000 in
set_option maxHeartbeats 4000000 in
theorem t_J9_abs_067f4_12 {G : Gx} {n0 : Int} {K : Int → Hh → Prop}  (s0 : Int) (h : Hh) (hf : w_J9_abs_067f4_12 K   s0 h) : PW G M_J9_abs_067f4 rm_J9_abs_067f4 0 0 [] n0 K 12 [] [vl s0] [] 0 0 h := by
  unfold w_J9_abs_067f4_12 at hf
  exact p_lret dJ9_abs_067f4_12 rfl (by decide) (by decide) (fun _ h => absurd h List.not_mem_nil) hf
def w_J9_abs_067f4 (x0 : Int) (h : Hh) (K : Int → Hh → Prop) : Prop := if x0 ≥ 0 then (w_J9_abs_067f4_12 K   x0 h) else (w_J9_abs_067f4_12 K   (w64 (-x0)) h)
set_option maxRecDepth 100000 in
set_option maxHeartbeats 4000000 in
theorem t_J9_abs_067f4 {G : Gx} (x0 : Int) (h : Hh) (K : Int → Hh → Prop) (hf : w_J9_abs_067f4 x0 h K) : CT G M_J9_abs_067f4 rm_J9_abs_067f4 0 0 [] [vl x0] h K := by
  unfold w_J9_abs_067f4 at hf
  refine CT.of (ls0 := [(0, vl x0)]) (by decide +kernel) (by decide +kernel) (Nat.le_of_ble_eq_true rfl) rfl rfl ?_
  refine p_lload_n dJ9_abs_067f4_0 rfl 0 rfl ?_
  refine p_lconst (z := 0) dJ9_abs_067f4_1 rfl ?_
  refine p_lcmp (z := (if x0 < 0 then (-1) else if x0 = 0 then 0 else 1)) dJ9_abs_067f4_2 rfl ?_
  refine p_if_ge (tgt := 11) (q := x0 ≥ 0) dJ9_abs_067f4_3 (by decide) (lc_ge x0 0) (fun hc => ?_) (fun hc => ?_)
  · replace hf := Eq.mp (if_pos hc) hf
    refine p_lload_n dJ9_abs_067f4_11 rfl 0 rfl ?_
    refine p_sub (ls' := []) [] rfl ?_
    exact t_J9_abs_067f4_12  _ _ hf
  · replace hf := Eq.mp (if_neg hc) hf
    refine p_lload_n dJ9_abs_067f4_6 rfl 0 rfl ?_
    refine p_lneg dJ9_abs_067f4_7 ?_
    refine p_goto (tgt := 12) dJ9_abs_067f4_8 (by decide) ?_
    refine p_sub (ls' := []) [] rfl ?_
    exact t_J9_abs_067f4_12  _ _ hf
theorem ok_J9_abs_067f4 : mOK M_J9_abs_067f4 1 := ⟨tb_630, tb_11, by decide +kernel⟩
abbrev M_X4_placeReadAt : MD := (yX4_placeReadAt, cX4_placeReadAt, 12, some .long)
abbrev rm_X4_placeReadAt : Room := { frames := 1, cells := 0, slots := 0, locals := 24 }
def w_X4_placeReadAt_79 (K : Int → Hh → Prop) (B : Int → Int → Int → Int → Hh → Prop) (X85 : Int → Hh → Prop) (a0 : Int) (v1 v5 v7 v9 : Int) (h : Hh) : Prop := vb (w32 (v9 + 1)) fun z9 => B v1 v5 v7 z9 h
set_option maxRecDepth 100000 in
set_option maxHeartbeats 4000000 in
theorem t_X4_placeReadAt_79 {G : Gx} {n0 : Int} {K : Int → Hh → Prop} {B : Int → Int → Int → Int → Hh → Prop} {X85 : Int → Hh → Prop} {a0 : Int} (h0 : 0 ≤ a0) (hB : ∀ (v1 v5 v7 v9 : Int) (h : Hh), B v1 v5 v7 v9 h → PW G M_X4_placeReadAt rm_X4_placeReadAt 0 0 [] n0 K 26 [(0, vr 4 a0 0), (1, vl v1), (5, vl v5), (7, vl v7), (9, vi v9)] [] [] 0 0 h) (hX85 : ∀ (v5 : Int) (h : Hh), X85 v5 h → PW G M_X4_placeReadAt rm_X4_placeReadAt 0 0 [] n0 K 85 [(5, vl v5)] [] [] 0 0 h)  (v1 v5 v7 v9 : Int) (h : Hh) (hf : w_X4_placeReadAt_79 K B X85 a0 v1 v5 v7 v9 h) : PW G M_X4_placeReadAt rm_X4_placeReadAt 0 0 [] n0 K 79 [(0, vr 4 a0 0), (1, vl v1), (5, vl v5), (7, vl v7), (9, vi v9)] [] [] 0 0 h := by
  unfold w_X4_placeReadAt_79 at hf
  refine p_iinc (ls' := [(9, vi (w32 (v9 + 1))), (0, vr 4 a0 0), (1, vl v1), (5, vl v5), (7, vl v7)]) dX4_placeReadAt_79 4 rfl (by decide) rfl ?_
  replace hf := vb_e hf
  generalize w32 (v9 + 1) = z9 at hf ⊢
  refine p_goto (tgt := 26) dX4_placeReadAt_82 (by decide) ?_
  refine p_sub (ls' := [(0, vr 4 a0 0), (1, vl v1), (5, vl v5), (7, vl v7), (9, vi z9)]) [1, 2, 3, 4, 0] rfl ?_
  exact hB _ _ _ _ _ hf
def w_X4_placeReadAt_26 (K : Int → Hh → Prop) (X85 : Int → Hh → Prop) (a0 : Int) : Nat → Int → Int → Int → Int → Hh → Prop
  | 0, _, _, _, _, _ => False
  | n + 1, v1, v5, v7, v9, h => if v9 ≥ 64 then (X85 v5 h) else (if w64 (v7 - v5) ≤ 1 then (X85 v5 h) else (vb (w64 (v5 + (w64 (Int.tdiv (w64 (v7 - v5)) 2)))) fun z6 => w_X4_lies a0 z6 h (fun r7 h8 => if r7 > v1 then (w_X4_placeReadAt_79 K (w_X4_placeReadAt_26 K X85 a0 n) X85 a0 v1 v5 z6 v9 h8) else (w_X4_placeReadAt_79 K (w_X4_placeReadAt_26 K X85 a0 n) X85 a0 v1 z6 v7 v9 h8))))
set_option maxRecDepth 100000 in
set_option maxHeartbeats 4000000 in
theorem t_X4_placeReadAt_26 {G : Gx} {n0 : Int} {K : Int → Hh → Prop} {X85 : Int → Hh → Prop} {a0 : Int} (h0 : 0 ≤ a0) (hX85 : ∀ (v5 : Int) (h : Hh), X85 v5 h → PW G M_X4_placeReadAt rm_X4_placeReadAt 0 0 [] n0 K 85 [(5, vl v5)] [] [] 0 0 h) : ∀ (n : Nat) (v1 v5 v7 v9 : Int) (h : Hh), w_X4_placeReadAt_26 K X85 a0 n v1 v5 v7 v9 h → PW G M_X4_placeReadAt rm_X4_placeReadAt 0 0 [] n0 K 26 [(0, vr 4 a0 0), (1, vl v1), (5, vl v5), (7, vl v7), (9, vi v9)] [] [] 0 0 h := by
  intro n
  induction n with
  | zero =>
    intro v1 v5 v7 v9 h hf
    rw [w_X4_placeReadAt_26] at hf
    exact hf.elim
  | succ n ih =>
    intro v1 v5 v7 v9 h hf
    rw [w_X4_placeReadAt_26] at hf
    refine p_iload dX4_placeReadAt_26 4 rfl ?_
    refine p_bipush dX4_placeReadAt_28 (by decide) (by decide) ?_
    refine p_icmp_ge (tgt := 85) (q := v9 ≥ 64) dX4_placeReadAt_30 (by decide) Iff.rfl (fun hc => ?_) (fun hc => ?_)
    · replace hf := Eq.mp (if_pos hc) hf
      refine p_sub (ls' := [(5, vl v5)]) [2] rfl ?_
      exact hX85 _ _ hf
    · replace hf := Eq.mp (if_neg hc) hf
      refine p_lload dX4_placeReadAt_33 3 rfl ?_
      refine p_lload dX4_placeReadAt_35 2 rfl ?_
      refine p_lsub dX4_placeReadAt_37 ?_
      refine p_lconst (z := 1) dX4_placeReadAt_38 rfl ?_
      refine p_lcmp (z := (if w64 (v7 - v5) < 1 then (-1) else if w64 (v7 - v5) = 1 then 0 else 1)) dX4_placeReadAt_39 rfl ?_
      refine p_if_le (tgt := 85) (q := w64 (v7 - v5) ≤ 1) dX4_placeReadAt_40 (by decide) (lc_le (w64 (v7 - v5)) 1) (fun hc => ?_) (fun hc => ?_)
      · replace hf := Eq.mp (if_pos hc) hf
        refine p_sub (ls' := [(5, vl v5)]) [2] rfl ?_
        exact hX85 _ _ hf
      · replace hf := Eq.mp (if_neg hc) hf
        refine p_lload dX4_placeReadAt_43 2 rfl ?_
        refine p_lload dX4_placeReadAt_45 3 rfl ?_
        refine p_lload dX4_placeReadAt_47 2 rfl ?_
        refine p_lsub dX4_placeReadAt_49 ?_
        refine p_ldc2 (z := 2) dX4_placeReadAt_50 tb_633 (by decide) ?_
        refine p_ldiv dX4_placeReadAt_53 (by decide) ?_
        refine p_ladd dX4_placeReadAt_54 ?_
        refine p_lstore (ls' := [(10, vl (w64 (v5 + (w64 (Int.tdiv (w64 (v7 - v5)) 2))))), (0, vr 4 a0 0), (1, vl v1), (5, vl v5), (7, vl v7), (9, vi v9)]) dX4_placeReadAt_55 (by decide) rfl ?_
        replace hf := vb_e hf
        generalize (w64 (v5 + (w64 (Int.tdiv (w64 (v7 - v5)) 2)))) = z6 at hf ⊢
        refine p_aload_n dX4_placeReadAt_57 rfl 1 rfl ?_
        refine p_lload dX4_placeReadAt_58 0 rfl ?_
        refine p_callVl dX4_placeReadAt_60 M_X4_lies rfl [vl z6] (t_X4_lies _ _ _ _ h0 hf) ok_X4_lies rfl (c := 4) (by decide) h0 rfl tb_634 ⟨tb_612, ts_36⟩ rfl (Nat.le_of_ble_eq_true rfl) ⟨rfl, rfl⟩ ⟨by decide, by decide⟩ ⟨by decide, by decide⟩ (fun r7 h8 hf => ?_)
        refine p_lload_n dX4_placeReadAt_63 rfl 2 rfl ?_
        refine p_lcmp (z := (if r7 < v1 then (-1) else if r7 = v1 then 0 else 1)) dX4_placeReadAt_64 rfl ?_
        refine p_if_gt (tgt := 75) (q := r7 > v1) dX4_placeReadAt_65 (by decide) (lc_gt r7 v1) (fun hc => ?_) (fun hc => ?_)
        · replace hf := Eq.mp (if_pos hc) hf
          refine p_lload dX4_placeReadAt_75 0 rfl ?_
          refine p_lstore (ls' := [(7, vl z6), (10, vl z6), (0, vr 4 a0 0), (1, vl v1), (5, vl v5), (9, vi v9)]) dX4_placeReadAt_77 (by decide) rfl ?_
          refine p_sub (ls' := [(0, vr 4 a0 0), (1, vl v1), (5, vl v5), (7, vl z6), (9, vi v9)]) [2, 3, 4, 0, 5] rfl ?_
          exact t_X4_placeReadAt_79 h0 ih hX85 _ _ _ _ _ hf
        · replace hf := Eq.mp (if_neg hc) hf
          refine p_lload dX4_placeReadAt_68 0 rfl ?_
          refine p_lstore (ls' := [(5, vl z6), (10, vl z6), (0, vr 4 a0 0), (1, vl v1), (7, vl v7), (9, vi v9)]) dX4_placeReadAt_70 (by decide) rfl ?_
          refine p_goto (tgt := 79) dX4_placeReadAt_72 (by decide) ?_
          refine p_sub (ls' := [(0, vr 4 a0 0), (1, vl v1), (5, vl z6), (7, vl v7), (9, vi v9)]) [2, 3, 0, 4, 5] rfl ?_
          exact t_X4_placeReadAt_79 h0 ih hX85 _ _ _ _ _ hf
def w_X4_placeReadAt_85 (K : Int → Hh → Prop) (a0 : Int) (v5 : Int) (h : Hh) : Prop := K v5 h
set_option maxRecDepth 100000 in
set_option maxHeartbeats 4000000 in
theorem t_X4_placeReadAt_85 {G : Gx} {n0 : Int} {K : Int → Hh → Prop} {a0 : Int} (h0 : 0 ≤ a0)  (v5 : Int) (h : Hh) (hf : w_X4_placeReadAt_85 K  a0 v5 h) : PW G M_X4_placeReadAt rm_X4_placeReadAt 0 0 [] n0 K 85 [(5, vl v5)] [] [] 0 0 h := by
  unfold w_X4_placeReadAt_85 at hf
  refine p_lload dX4_placeReadAt_85 0 rfl ?_
  exact p_lret dX4_placeReadAt_87 rfl (by decide) (by decide) (fun _ h => absurd h List.not_mem_nil) hf
def w_X4_placeReadAt (a0 x1 : Int) (h : Hh) (K : Int → Hh → Prop) : Prop := w_J9_abs_067f4 x1 h (fun r1 h2 => vb (w64 ((w64 (Int.tdiv r1 10)) + 5000)) fun z3 => vb (w64 (x1 - z3)) fun z4 => vb (w64 (x1 + z3)) fun z5 => w_X4_placeReadAt_26 K (fun u11 h10 => w_X4_placeReadAt_85 K  a0 u11 h10) a0 NF x1 z4 z5 0 h2)
set_option maxRecDepth 100000 in
set_option maxHeartbeats 4000000 in
theorem t_X4_placeReadAt {G : Gx} (a0 x1 : Int) (h : Hh) (K : Int → Hh → Prop) (h0 : 0 ≤ a0) (hf : w_X4_placeReadAt a0 x1 h K) : CT G M_X4_placeReadAt rm_X4_placeReadAt 0 0 [] [vr 4 a0 0, vl x1] h K := by
  unfold w_X4_placeReadAt at hf
  refine CT.of (ls0 := [(0, vr 4 a0 0), (1, vl x1)]) (plainFor_of_name (by decide +kernel)) (by decide +kernel) (Nat.le_of_ble_eq_true rfl) rfl rfl ?_
  refine p_lload_n dX4_placeReadAt_0 rfl 1 rfl ?_
  refine p_callSl dX4_placeReadAt_1 M_J9_abs_067f4 rfl [vl x1] (t_J9_abs_067f4 _ _ _ hf) ok_J9_abs_067f4 rfl tb_628 tb_629 rfl (Nat.le_of_ble_eq_true rfl) ⟨rfl, rfl⟩ ⟨by decide, by decide⟩ ⟨by decide, by decide⟩ (fun r1 h2 hf => ?_)
  refine p_ldc2 (z := 10) dX4_placeReadAt_4 tb_631 (by decide) ?_
  refine p_ldiv dX4_placeReadAt_7 (by decide) ?_
  refine p_ldc2 (z := 5000) dX4_placeReadAt_8 tb_632 (by decide) ?_
  refine p_ladd dX4_placeReadAt_11 ?_
  refine p_lstore_n (ls' := [(3, vl (w64 ((w64 (Int.tdiv r1 10)) + 5000))), (0, vr 4 a0 0), (1, vl x1)]) dX4_placeReadAt_12 rfl (by decide) rfl ?_
  replace hf := vb_e hf
  generalize (w64 ((w64 (Int.tdiv r1 10)) + 5000)) = z3 at hf ⊢
  refine p_lload_n dX4_placeReadAt_13 rfl 2 rfl ?_
  refine p_lload_n dX4_placeReadAt_14 rfl 0 rfl ?_
  refine p_lsub dX4_placeReadAt_15 ?_
  refine p_lstore (ls' := [(5, vl (w64 (x1 - z3))), (3, vl z3), (0, vr 4 a0 0), (1, vl x1)]) dX4_placeReadAt_16 (by decide) rfl ?_
  replace hf := vb_e hf
  generalize (w64 (x1 - z3)) = z4 at hf ⊢
  refine p_lload_n dX4_placeReadAt_18 rfl 3 rfl ?_
  refine p_lload_n dX4_placeReadAt_19 rfl 1 rfl ?_
  refine p_ladd dX4_placeReadAt_20 ?_
  refine p_lstore (ls' := [(7, vl (w64 (x1 + z3))), (5, vl z4), (3, vl z3), (0, vr 4 a0 0), (1, vl x1)]) dX4_placeReadAt_21 (by decide) rfl ?_
  replace hf := vb_e hf
  generalize (w64 (x1 + z3)) = z5 at hf ⊢
  refine p_iconst dX4_placeReadAt_23 (by decide) ?_
  refine p_istore (ls' := [(9, vi 0), (7, vl z5), (5, vl z4), (3, vl z3), (0, vr 4 a0 0), (1, vl x1)]) dX4_placeReadAt_24 (by decide) rfl ?_
  refine p_sub (ls' := [(0, vr 4 a0 0), (1, vl x1), (5, vl z4), (7, vl z5), (9, vi 0)]) [4, 5, 2, 1, 0] rfl ?_
  refine t_X4_placeReadAt_26 h0 ?_ NF _ _ _ _ _ hf
  · intro u11 h10 hf
    exact t_X4_placeReadAt_85 h0  _ _ hf
theorem ok_X4_placeReadAt : mOK M_X4_placeReadAt 1 := ⟨tb_627, tb_13, by decide +kernel⟩
abbrev M_X5_init : MD := (yX5_init, cX5_init, 1, none)
abbrev rm_X5_init : Room := { frames := 1, cells := 2, slots := 10, locals := 20 }
def w_X5_init (a0 : Int) (h : Hh) (K : Int → Hh → Prop) : Prop := (h (-1) 0 = a0 + 1) ∧ (hb (nw h (fun _ => 0)) fun h2 => hb (up h2 a0 0 (a0 + 1)) fun h3 => (h3 (-1) 0 = a0 + 2) ∧ (hb (nw h3 (fun _ => 0)) fun h5 => hb (up h5 a0 1 (a0 + 2)) fun h6 => K 0 h6))
set_option maxRecDepth 100000 in
set_option maxHeartbeats 4000000 in
theorem t_X5_init {G : Gx} (a0 : Int) (h : Hh) (K : Int → Hh → Prop) (h0 : 0 ≤ a0) (hf : w_X5_init a0 h K) : CT G M_X5_init rm_X5_init 2 10 [vr 100 (a0 + 1) 5, vr 100 (a0 + 2) 5] [vr 55 a0 0] h K := by
  unfold w_X5_init at hf
  refine CT.of (ls0 := [(0, vr 55 a0 0)]) (plainFor_of_name (by decide +kernel)) (by decide +kernel) (Nat.le_of_ble_eq_true rfl) rfl rfl ?_
  refine p_aload_n dX5_init_0 rfl 0 rfl ?_
  refine p_oinit dX5_init_1 tb_45 tb_22 tb_23 (by decide) h0 (Nat.le_of_ble_eq_true rfl) ⟨by decide, by decide⟩ ?_
  refine p_aload_n dX5_init_4 rfl 0 rfl ?_
  refine p_iconst dX5_init_5 (by decide) ?_
  obtain ⟨c1, hf⟩ := hf
  refine p_newa (t := 100) (ti := 0) (ty := .int) (z := a0 + 1) dX5_init_6 rfl (Or.inl ⟨rfl, rfl⟩) rfl tb_75 (by decide) c1 ⟨by decide, by decide⟩ ?_
  replace hf := hb_e hf
  generalize nw h (fun _ => 0) = h2 at hf ⊢
  refine p_norm (kn' := [vr 100 (a0 + 1) 5]) (cells' := 1) (slots' := 5) rfl rfl rfl ?_
  refine p_putaF (c := 5) dX5_init_8 0 tb_46 (by decide) (by decide) (Or.inr rfl) h0 rfl rfl rfl rfl rfl (by decide) (fun q => absurd q (by decide)) (up h2 a0 0 (a0 + 1)) rfl ?_
  replace hf := hb_e hf
  generalize up h2 a0 0 (a0 + 1) = h3 at hf ⊢
  refine p_aload_n dX5_init_11 rfl 0 rfl ?_
  refine p_iconst dX5_init_12 (by decide) ?_
  obtain ⟨c4, hf⟩ := hf
  refine p_newa (t := 100) (ti := 0) (ty := .int) (z := a0 + 2) dX5_init_13 rfl (Or.inl ⟨rfl, rfl⟩) rfl tb_75 (by decide) c4 ⟨by decide, by decide⟩ ?_
  replace hf := hb_e hf
  generalize nw h3 (fun _ => 0) = h5 at hf ⊢
  refine p_norm (kn' := [vr 100 (a0 + 2) 5, vr 100 (a0 + 1) 5]) (cells' := 2) (slots' := 10) rfl rfl rfl ?_
  refine p_putaF (c := 5) dX5_init_15 1 tb_48 (by decide) (by decide) (Or.inr rfl) h0 rfl rfl rfl rfl rfl (by decide) (fun q => absurd q (by decide)) (up h5 a0 1 (a0 + 2)) rfl ?_
  replace hf := hb_e hf
  generalize up h5 a0 1 (a0 + 2) = h6 at hf ⊢
  exact p_vret dX5_init_18 rfl (by decide) (by decide) (List.forall_mem_cons.mpr ⟨List.mem_of_getElem? (i := 1) rfl, List.forall_mem_cons.mpr ⟨List.mem_of_getElem? (i := 0) rfl, fun _ h => absurd h List.not_mem_nil⟩⟩) hf
theorem ok_X5_init : mOK M_X5_init 0 := ⟨tb_44, tb_3, by decide +kernel⟩
abbrev M_X5_startOver : MD := (yX5_startOver, cX5_startOver, 1, none)
abbrev rm_X5_startOver : Room := { frames := 0, cells := 0, slots := 0, locals := 0 }
def w_X5_startOver (a0 : Int) (h : Hh) (K : Int → Hh → Prop) : Prop := hb (up h a0 2 0) fun h1 => hb (up h1 a0 3 0) fun h2 => hb (up h2 a0 4 0) fun h3 => hb (up h3 a0 5 1) fun h4 => hb (up h4 a0 6 0) fun h5 => hb (up h5 a0 7 0) fun h6 => K 0 h6
set_option maxRecDepth 100000 in
set_option maxHeartbeats 4000000 in
theorem t_X5_startOver {G : Gx} (a0 : Int) (h : Hh) (K : Int → Hh → Prop) (h0 : 0 ≤ a0) (hf : w_X5_startOver a0 h K) : CT G M_X5_startOver rm_X5_startOver 0 0 [] [vr 5 a0 0] h K := by
  unfold w_X5_startOver at hf
  refine CT.of (ls0 := [(0, vr 5 a0 0)]) (plainFor_of_name (by decide +kernel)) (by decide +kernel) (Nat.le_of_ble_eq_true rfl) rfl rfl ?_
  refine p_aload_n dX5_startOver_0 rfl 0 rfl ?_
  refine p_iconst dX5_startOver_1 (by decide) ?_
  refine p_puti (c := 5) dX5_startOver_2 2 tb_51 (by decide) (by decide) (Or.inl rfl) h0 rfl rfl (fun _ => by decide) (up h a0 2 0) rfl ?_
  replace hf := hb_e hf
  generalize up h a0 2 0 = h1 at hf ⊢
  refine p_aload_n dX5_startOver_5 rfl 0 rfl ?_
  refine p_iconst dX5_startOver_6 (by decide) ?_
  refine p_puti (c := 5) dX5_startOver_7 3 tb_53 (by decide) (by decide) (Or.inl rfl) h0 rfl rfl (fun _ => by decide) (up h1 a0 3 0) rfl ?_
  replace hf := hb_e hf
  generalize up h1 a0 3 0 = h2 at hf ⊢
  refine p_aload_n dX5_startOver_10 rfl 0 rfl ?_
  refine p_iconst dX5_startOver_11 (by decide) ?_
  refine p_puti (c := 5) dX5_startOver_12 4 tb_54 (by decide) (by decide) (Or.inl rfl) h0 rfl rfl (fun _ => by decide) (up h2 a0 4 0) rfl ?_
  replace hf := hb_e hf
  generalize up h2 a0 4 0 = h3 at hf ⊢
  refine p_aload_n dX5_startOver_15 rfl 0 rfl ?_
  refine p_iconst dX5_startOver_16 (by decide) ?_
  refine p_puti (c := 5) dX5_startOver_17 5 tb_55 (by decide) (by decide) (Or.inl rfl) h0 rfl rfl (fun _ => by decide) (up h3 a0 5 1) rfl ?_
  replace hf := hb_e hf
  generalize up h3 a0 5 1 = h4 at hf ⊢
  refine p_aload_n dX5_startOver_20 rfl 0 rfl ?_
  refine p_iconst dX5_startOver_21 (by decide) ?_
  refine p_puti (c := 5) dX5_startOver_22 6 tb_56 (by decide) (by decide) (Or.inl rfl) h0 rfl rfl (fun _ => by decide) (up h4 a0 6 0) rfl ?_
  replace hf := hb_e hf
  generalize up h4 a0 6 0 = h5 at hf ⊢
  refine p_aload_n dX5_startOver_25 rfl 0 rfl ?_
  refine p_iconst dX5_startOver_26 (by decide) ?_
  refine p_puti (c := 5) dX5_startOver_27 7 tb_57 (by decide) (by decide) (Or.inl rfl) h0 rfl rfl (fun _ => by decide) (up h5 a0 7 0) rfl ?_
  replace hf := hb_e hf
  generalize up h5 a0 7 0 = h6 at hf ⊢
  exact p_vret dX5_startOver_30 rfl (by decide) (by decide) (fun _ h => absurd h List.not_mem_nil) hf
theorem ok_X5_startOver : mOK M_X5_startOver 0 := ⟨tb_302, tb_3, by decide +kernel⟩
abbrev M_X8_byteAt : MD := (yX8_byteAt, cX8_byteAt, 2, some .int)
abbrev rm_X8_byteAt : Room := { frames := 0, cells := 0, slots := 0, locals := 0 }
def w_X8_byteAt_26 (K : Int → Hh → Prop) (a0 : Int) (s0 : Int) (h : Hh) : Prop := K s0 h
set_option maxRecDepth 100000 in
set_option maxHeartbeats 4000000 in
theorem t_X8_byteAt_26 {G : Gx} {n0 : Int} {K : Int → Hh → Prop} {a0 : Int} (h0 : 0 ≤ a0)  (s0 : Int) (h : Hh) (hf : w_X8_byteAt_26 K  a0 s0 h) : PW G M_X8_byteAt rm_X8_byteAt 0 0 [] n0 K 26 [] [vi s0] [] 0 0 h := by
  unfold w_X8_byteAt_26 at hf
  exact p_iret dX8_byteAt_26 rfl (by decide) (by decide) (fun _ h => absurd h List.not_mem_nil) hf
def w_X8_byteAt_25 (K : Int → Hh → Prop) (a0 : Int) (h : Hh) : Prop := w_X8_byteAt_26 K  a0 0 h
set_option maxRecDepth 100000 in
set_option maxHeartbeats 4000000 in
theorem t_X8_byteAt_25 {G : Gx} {n0 : Int} {K : Int → Hh → Prop} {a0 : Int} (h0 : 0 ≤ a0)  (h : Hh) (hf : w_X8_byteAt_25 K  a0  h) : PW G M_X8_byteAt rm_X8_byteAt 0 0 [] n0 K 25 [] [] [] 0 0 h := by
  unfold w_X8_byteAt_25 at hf
  refine p_iconst dX8_byteAt_25 (by decide) ?_
  exact t_X8_byteAt_26 h0  _ _ hf
def w_X8_byteAt (a0 x1 : Int) (h : Hh) (K : Int → Hh → Prop) : Prop := if x1 < 0 then (w_X8_byteAt_25 K  a0  h) else (if x1 ≥ h a0 1 then (w_X8_byteAt_25 K  a0  h) else (((0 : Int) ≤ x1 ∧ (x1 : Int) < 120) ∧ (w_X8_byteAt_26 K  a0 ((i32 (h (a0 + 1) x1) &&& i32 255).toInt) h)))
set_option maxRecDepth 100000 in
set_option maxHeartbeats 4000000 in
theorem t_X8_byteAt {G : Gx} (a0 x1 : Int) (h : Hh) (K : Int → Hh → Prop) (h0 : 0 ≤ a0) (hf : w_X8_byteAt a0 x1 h K) : CT G M_X8_byteAt rm_X8_byteAt 0 0 [] [vr 8 a0 0, vi x1] h K := by
  unfold w_X8_byteAt at hf
  refine CT.of (ls0 := [(0, vr 8 a0 0), (1, vi x1)]) (plainFor_of_name (by decide +kernel)) (by decide +kernel) (Nat.le_of_ble_eq_true rfl) rfl rfl ?_
  refine p_iload_n dX8_byteAt_0 rfl 1 rfl ?_
  refine p_if_lt (tgt := 25) (q := x1 < 0) dX8_byteAt_1 (by decide) Iff.rfl (fun hc => ?_) (fun hc => ?_)
  · replace hf := Eq.mp (if_pos hc) hf
    refine p_sub (ls' := []) [] rfl ?_
    exact t_X8_byteAt_25 h0   _ hf
  · replace hf := Eq.mp (if_neg hc) hf
    refine p_iload_n dX8_byteAt_4 rfl 1 rfl ?_
    refine p_aload_n dX8_byteAt_5 rfl 0 rfl ?_
    refine p_get (c := 8) (vi (h a0 1)) dX8_byteAt_6 1 tb_32 (by decide) (by decide) (Or.inl rfl) h0 rfl rfl ?_
    refine p_icmp_ge (tgt := 25) (q := x1 ≥ h a0 1) dX8_byteAt_9 (by decide) Iff.rfl (fun hc => ?_) (fun hc => ?_)
    · replace hf := Eq.mp (if_pos hc) hf
      refine p_sub (ls' := []) [] rfl ?_
      exact t_X8_byteAt_25 h0   _ hf
    · replace hf := Eq.mp (if_neg hc) hf
      refine p_aload_n dX8_byteAt_12 rfl 0 rfl ?_
      refine p_lay (c := 8) (tq := 102) (n := 120) dX8_byteAt_13 0 1 tb_30 (by decide) (by decide) h0 (by decide) (by decide) (fun _ => rfl) (vr 102 (a0 + 1) 120) rfl ?_
      refine p_iload_n dX8_byteAt_16 rfl 1 rfl ?_
      obtain ⟨c1, hf⟩ := hf
      refine p_bald dX8_byteAt_17 (nnk h0 (by decide)) c1 ?_
      refine p_sipush dX8_byteAt_18 (by decide) (by decide) ?_
      refine p_iand dX8_byteAt_21 ?_
      refine p_goto (tgt := 26) dX8_byteAt_22 (by decide) ?_
      refine p_sub (ls' := []) [] rfl ?_
      exact t_X8_byteAt_26 h0  _ _ hf
theorem ok_X8_byteAt : mOK M_X8_byteAt 1 := ⟨tb_306, tb_2, by decide +kernel⟩
abbrev M_X5_takeNumber : MD := (yX5_takeNumber, cX5_takeNumber, 2, none)
abbrev rm_X5_takeNumber : Room := { frames := 0, cells := 0, slots := 0, locals := 0 }
def w_X5_takeNumber (a0 x1 : Int) (h : Hh) (K : Int → Hh → Prop) : Prop := hb (up h a0 3 (w32 ((h a0 3) + (w32 ((h a0 5) * x1))))) fun h1 => hb (up h1 a0 4 7) fun h2 => K 0 h2
set_option maxRecDepth 100000 in
set_option maxHeartbeats 4000000 in
theorem t_X5_takeNumber {G : Gx} (a0 x1 : Int) (h : Hh) (K : Int → Hh → Prop) (h0 : 0 ≤ a0) (hf : w_X5_takeNumber a0 x1 h K) : CT G M_X5_takeNumber rm_X5_takeNumber 0 0 [] [vr 5 a0 0, vi x1] h K := by
  unfold w_X5_takeNumber at hf
  refine CT.of (ls0 := [(0, vr 5 a0 0), (1, vi x1)]) (plainFor_of_name (by decide +kernel)) (by decide +kernel) (Nat.le_of_ble_eq_true rfl) rfl rfl ?_
  refine p_aload_n dX5_takeNumber_0 rfl 0 rfl ?_
  refine p_dup dX5_takeNumber_1 (fun _ q => by cases q) ?_
  refine p_get (c := 5) (vi (h a0 3)) dX5_takeNumber_2 3 tb_53 (by decide) (by decide) (Or.inl rfl) h0 rfl rfl ?_
  refine p_aload_n dX5_takeNumber_5 rfl 0 rfl ?_
  refine p_get (c := 5) (vi (h a0 5)) dX5_takeNumber_6 5 tb_55 (by decide) (by decide) (Or.inl rfl) h0 rfl rfl ?_
  refine p_iload_n dX5_takeNumber_9 rfl 1 rfl ?_
  refine p_imul dX5_takeNumber_10 ?_
  refine p_iadd dX5_takeNumber_11 ?_
  refine p_puti (c := 5) dX5_takeNumber_12 3 tb_53 (by decide) (by decide) (Or.inl rfl) h0 rfl rfl (fun _ => by decide) (up h a0 3 (w32 ((h a0 3) + (w32 ((h a0 5) * x1))))) rfl ?_
  replace hf := hb_e hf
  generalize up h a0 3 (w32 ((h a0 3) + (w32 ((h a0 5) * x1)))) = h1 at hf ⊢
  refine p_aload_n dX5_takeNumber_15 rfl 0 rfl ?_
  refine p_bipush dX5_takeNumber_16 (by decide) (by decide) ?_
  refine p_puti (c := 5) dX5_takeNumber_18 4 tb_54 (by decide) (by decide) (Or.inl rfl) h0 rfl rfl (fun _ => by decide) (up h1 a0 4 7) rfl ?_
  replace hf := hb_e hf
  generalize up h1 a0 4 7 = h2 at hf ⊢
  exact p_vret dX5_takeNumber_21 rfl (by decide) (by decide) (fun _ h => absurd h List.not_mem_nil) hf
theorem ok_X5_takeNumber : mOK M_X5_takeNumber 1 := ⟨tb_310, tb_3, by decide +kernel⟩
abbrev M_X5_goesOn : MD := (yX5_goesOn, cX5_goesOn, 3, some .boolean)
abbrev rm_X5_goesOn : Room := { frames := 0, cells := 0, slots := 0, locals := 0 }
def w_X5_goesOn (a0 x1 x2 : Int) (h : Hh) (K : Int → Hh → Prop) : Prop := hb (up h a0 5 x1) fun h1 => hb (up h1 a0 4 x2) fun h2 => K 1 h2
set_option maxRecDepth 100000 in
set_option maxHeartbeats 4000000 in
theorem t_X5_goesOn {G : Gx} (a0 x1 x2 : Int) (h : Hh) (K : Int → Hh → Prop) (h0 : 0 ≤ a0) (hf : w_X5_goesOn a0 x1 x2 h K) : CT G M_X5_goesOn rm_X5_goesOn 0 0 [] [vr 5 a0 0, vi x1, vi x2] h K := by
  unfold w_X5_goesOn at hf
  refine CT.of (ls0 := [(0, vr 5 a0 0), (1, vi x1), (2, vi x2)]) (plainFor_of_name (by decide +kernel)) (by decide +kernel) (Nat.le_of_ble_eq_true rfl) rfl rfl ?_
  refine p_aload_n dX5_goesOn_0 rfl 0 rfl ?_
  refine p_iload_n dX5_goesOn_1 rfl 1 rfl ?_
  refine p_puti (c := 5) dX5_goesOn_2 5 tb_55 (by decide) (by decide) (Or.inl rfl) h0 rfl rfl (fun _ => by decide) (up h a0 5 x1) rfl ?_
  replace hf := hb_e hf
  generalize up h a0 5 x1 = h1 at hf ⊢
  refine p_aload_n dX5_goesOn_5 rfl 0 rfl ?_
  refine p_iload_n dX5_goesOn_6 rfl 2 rfl ?_
  refine p_puti (c := 5) dX5_goesOn_7 4 tb_54 (by decide) (by decide) (Or.inl rfl) h0 rfl rfl (fun _ => by decide) (up h1 a0 4 x2) rfl ?_
  replace hf := hb_e hf
  generalize up h1 a0 4 x2 = h2 at hf ⊢
  refine p_iconst dX5_goesOn_10 (by decide) ?_
  exact p_zret dX5_goesOn_11 rfl (by decide) (by decide) (fun _ h => absurd h List.not_mem_nil) (Or.inr rfl) hf
theorem ok_X5_goesOn : mOK M_X5_goesOn 2 := ⟨tb_322, tb_3, by decide +kernel⟩
abbrev M_X5_takesLetter : MD := (yX5_takesLetter, cX5_takesLetter, 5, some .boolean)
abbrev rm_X5_takesLetter : Room := { frames := 1, cells := 0, slots := 0, locals := 22 }
def w_X5_takesLetter_20 (K : Int → Hh → Prop) (a0 : Int) (h : Hh) : Prop := K 0 h
set_option maxRecDepth 100000 in
set_option maxHeartbeats 4000000 in
theorem t_X5_takesLetter_20 {G : Gx} {n0 : Int} {K : Int → Hh → Prop} {a0 : Int} (h0 : 0 ≤ a0)  (h : Hh) (hf : w_X5_takesLetter_20 K  a0  h) : PW G M_X5_takesLetter rm_X5_takesLetter 0 0 [] n0 K 20 [] [] [] 0 0 h := by
  unfold w_X5_takesLetter_20 at hf
  refine p_iconst dX5_takesLetter_20 (by decide) ?_
  exact p_zret dX5_takesLetter_21 rfl (by decide) (by decide) (fun _ h => absurd h List.not_mem_nil) (Or.inl rfl) hf
def w_X5_takesLetter (a0 x1 x2 x3 : Int) (h : Hh) (K : Int → Hh → Prop) : Prop := if x1 < 97 then (w_X5_takesLetter_20 K  a0  h) else (if x1 > 122 then (w_X5_takesLetter_20 K  a0  h) else (if h a0 2 < 5 then (vb ((i32 1 <<< (i32 (w32 (x1 - 97)) &&& 31)).toInt) fun z1 => if (i32 (h a0 7) &&& i32 z1).toInt = 0 then (hb (up h a0 7 ((i32 (h a0 7) ||| i32 z1).toInt)) fun h2 => hb (up h2 a0 6 x1) fun h3 => ((0 : Int) ≤ h3 a0 2 ∧ (h3 a0 2 : Int) < 5) ∧ (hb (up h3 (a0 + 1) (h3 a0 2) x2) fun h5 => ((0 : Int) ≤ h5 a0 2 ∧ (h5 a0 2 : Int) < 5) ∧ (hb (up h5 (a0 + 2) (h5 a0 2) (h5 a0 5)) fun h7 => hb (up h7 a0 2 (w32 ((h7 a0 2) + 1))) fun h8 => w_X5_goesOn a0 (h8 a0 5) x3 h8 (fun r9 h10 => (r9 = 0 ∨ r9 = 1) ∧ (K r9 h10))))) else (K 0 h)) else (w_X5_takesLetter_20 K  a0  h)))
set_option maxRecDepth 100000 in
set_option maxHeartbeats 4000000 in
theorem t_X5_takesLetter {G : Gx} (a0 x1 x2 x3 : Int) (h : Hh) (K : Int → Hh → Prop) (h0 : 0 ≤ a0) (hf : w_X5_takesLetter a0 x1 x2 x3 h K) : CT G M_X5_takesLetter rm_X5_takesLetter 0 0 [] [vr 5 a0 0, vi x1, vi x2, vi x3] h K := by
  unfold w_X5_takesLetter at hf
  refine CT.of (ls0 := [(0, vr 5 a0 0), (1, vi x1), (2, vi x2), (3, vi x3)]) (plainFor_of_name (by decide +kernel)) (by decide +kernel) (Nat.le_of_ble_eq_true rfl) rfl rfl ?_
  refine p_iload_n dX5_takesLetter_0 rfl 1 rfl ?_
  refine p_bipush dX5_takesLetter_1 (by decide) (by decide) ?_
  refine p_icmp_lt (tgt := 20) (q := x1 < 97) dX5_takesLetter_3 (by decide) Iff.rfl (fun hc => ?_) (fun hc => ?_)
  · replace hf := Eq.mp (if_pos hc) hf
    refine p_sub (ls' := []) [] rfl ?_
    exact t_X5_takesLetter_20 h0   _ hf
  · replace hf := Eq.mp (if_neg hc) hf
    refine p_iload_n dX5_takesLetter_6 rfl 1 rfl ?_
    refine p_bipush dX5_takesLetter_7 (by decide) (by decide) ?_
    refine p_icmp_gt (tgt := 20) (q := x1 > 122) dX5_takesLetter_9 (by decide) Iff.rfl (fun hc => ?_) (fun hc => ?_)
    · replace hf := Eq.mp (if_pos hc) hf
      refine p_sub (ls' := []) [] rfl ?_
      exact t_X5_takesLetter_20 h0   _ hf
    · replace hf := Eq.mp (if_neg hc) hf
      refine p_aload_n dX5_takesLetter_12 rfl 0 rfl ?_
      refine p_get (c := 5) (vi (h a0 2)) dX5_takesLetter_13 2 tb_51 (by decide) (by decide) (Or.inl rfl) h0 rfl rfl ?_
      refine p_iconst dX5_takesLetter_16 (by decide) ?_
      refine p_icmp_lt (tgt := 22) (q := h a0 2 < 5) dX5_takesLetter_17 (by decide) Iff.rfl (fun hc => ?_) (fun hc => ?_)
      · replace hf := Eq.mp (if_pos hc) hf
        refine p_iconst dX5_takesLetter_22 (by decide) ?_
        refine p_iload_n dX5_takesLetter_23 rfl 1 rfl ?_
        refine p_bipush dX5_takesLetter_24 (by decide) (by decide) ?_
        refine p_isub dX5_takesLetter_26 ?_
        refine p_ishl dX5_takesLetter_27 ?_
        refine p_istore (ls' := [(4, vi ((i32 1 <<< (i32 (w32 (x1 - 97)) &&& 31)).toInt)), (0, vr 5 a0 0), (1, vi x1), (2, vi x2), (3, vi x3)]) dX5_takesLetter_28 (by decide) rfl ?_
        replace hf := vb_e hf
        generalize ((i32 1 <<< (i32 (w32 (x1 - 97)) &&& 31)).toInt) = z1 at hf ⊢
        refine p_aload_n dX5_takesLetter_30 rfl 1 rfl ?_
        refine p_get (c := 5) (vi (h a0 7)) dX5_takesLetter_31 7 tb_57 (by decide) (by decide) (Or.inl rfl) h0 rfl rfl ?_
        refine p_iload dX5_takesLetter_34 0 rfl ?_
        refine p_iand dX5_takesLetter_36 ?_
        refine p_if_eq (tgt := 42) (q := (i32 (h a0 7) &&& i32 z1).toInt = 0) dX5_takesLetter_37 (by decide) Iff.rfl (fun hc => ?_) (fun hc => ?_)
        · replace hf := Eq.mp (if_pos hc) hf
          refine p_aload_n dX5_takesLetter_42 rfl 1 rfl ?_
          refine p_dup dX5_takesLetter_43 (fun _ q => by cases q) ?_
          refine p_get (c := 5) (vi (h a0 7)) dX5_takesLetter_44 7 tb_57 (by decide) (by decide) (Or.inl rfl) h0 rfl rfl ?_
          refine p_iload dX5_takesLetter_47 0 rfl ?_
          refine p_ior dX5_takesLetter_49 ?_
          refine p_puti (c := 5) dX5_takesLetter_50 7 tb_57 (by decide) (by decide) (Or.inl rfl) h0 rfl rfl (fun _ => by decide) (up h a0 7 ((i32 (h a0 7) ||| i32 z1).toInt)) rfl ?_
          replace hf := hb_e hf
          generalize up h a0 7 ((i32 (h a0 7) ||| i32 z1).toInt) = h2 at hf ⊢
          refine p_aload_n dX5_takesLetter_53 rfl 1 rfl ?_
          refine p_iload_n dX5_takesLetter_54 rfl 2 rfl ?_
          refine p_puti (c := 5) dX5_takesLetter_55 6 tb_56 (by decide) (by decide) (Or.inl rfl) h0 rfl rfl (fun _ => by decide) (up h2 a0 6 x1) rfl ?_
          replace hf := hb_e hf
          generalize up h2 a0 6 x1 = h3 at hf ⊢
          refine p_aload_n dX5_takesLetter_58 rfl 1 rfl ?_
          refine p_lay (c := 5) (tq := 100) (n := 5) dX5_takesLetter_59 0 1 tb_46 (by decide) (by decide) h0 (by decide) (by decide) (fun _ => rfl) (vr 100 (a0 + 1) 5) rfl ?_
          refine p_aload_n dX5_takesLetter_62 rfl 1 rfl ?_
          refine p_get (c := 5) (vi (h3 a0 2)) dX5_takesLetter_63 2 tb_51 (by decide) (by decide) (Or.inl rfl) h0 rfl rfl ?_
          refine p_iload_n dX5_takesLetter_66 rfl 3 rfl ?_
          obtain ⟨c4, hf⟩ := hf
          refine p_iast dX5_takesLetter_67 (nnk h0 (by decide)) c4 ?_
          replace hf := hb_e hf
          generalize up h3 (a0 + 1) (h3 a0 2) x2 = h5 at hf ⊢
          refine p_aload_n dX5_takesLetter_68 rfl 1 rfl ?_
          refine p_lay (c := 5) (tq := 100) (n := 5) dX5_takesLetter_69 1 2 tb_48 (by decide) (by decide) h0 (by decide) (by decide) (fun _ => rfl) (vr 100 (a0 + 2) 5) rfl ?_
          refine p_aload_n dX5_takesLetter_72 rfl 1 rfl ?_
          refine p_get (c := 5) (vi (h5 a0 2)) dX5_takesLetter_73 2 tb_51 (by decide) (by decide) (Or.inl rfl) h0 rfl rfl ?_
          refine p_aload_n dX5_takesLetter_76 rfl 1 rfl ?_
          refine p_get (c := 5) (vi (h5 a0 5)) dX5_takesLetter_77 5 tb_55 (by decide) (by decide) (Or.inl rfl) h0 rfl rfl ?_
          obtain ⟨c6, hf⟩ := hf
          refine p_iast dX5_takesLetter_80 (nnk h0 (by decide)) c6 ?_
          replace hf := hb_e hf
          generalize up h5 (a0 + 2) (h5 a0 2) (h5 a0 5) = h7 at hf ⊢
          refine p_aload_n dX5_takesLetter_81 rfl 1 rfl ?_
          refine p_dup dX5_takesLetter_82 (fun _ q => by cases q) ?_
          refine p_get (c := 5) (vi (h7 a0 2)) dX5_takesLetter_83 2 tb_51 (by decide) (by decide) (Or.inl rfl) h0 rfl rfl ?_
          refine p_iconst dX5_takesLetter_86 (by decide) ?_
          refine p_iadd dX5_takesLetter_87 ?_
          refine p_puti (c := 5) dX5_takesLetter_88 2 tb_51 (by decide) (by decide) (Or.inl rfl) h0 rfl rfl (fun _ => by decide) (up h7 a0 2 (w32 ((h7 a0 2) + 1))) rfl ?_
          replace hf := hb_e hf
          generalize up h7 a0 2 (w32 ((h7 a0 2) + 1)) = h8 at hf ⊢
          refine p_aload_n dX5_takesLetter_91 rfl 1 rfl ?_
          refine p_aload_n dX5_takesLetter_92 rfl 1 rfl ?_
          refine p_get (c := 5) (vi (h8 a0 5)) dX5_takesLetter_93 5 tb_55 (by decide) (by decide) (Or.inl rfl) h0 rfl rfl ?_
          refine p_iload_n dX5_takesLetter_96 rfl 4 rfl ?_
          refine p_callVi dX5_takesLetter_97 M_X5_goesOn (Or.inr rfl) [vi (h8 a0 5), vi x3] (t_X5_goesOn _ _ _ _ _ h0 hf) ok_X5_goesOn rfl (c := 5) (by decide) h0 rfl tb_319 ⟨tb_321, ts_7⟩ rfl (Nat.le_of_ble_eq_true rfl) ⟨rfl, rfl⟩ ⟨by decide, by decide⟩ ⟨by decide, by decide⟩ (fun r9 h10 hf => ?_)
          obtain ⟨c11, hf⟩ := hf
          exact p_zret dX5_takesLetter_100 rfl (by decide) (by decide) (fun _ h => absurd h List.not_mem_nil) c11 hf
        · replace hf := Eq.mp (if_neg hc) hf
          refine p_iconst dX5_takesLetter_40 (by decide) ?_
          exact p_zret dX5_takesLetter_41 rfl (by decide) (by decide) (fun _ h => absurd h List.not_mem_nil) (Or.inl rfl) hf
      · replace hf := Eq.mp (if_neg hc) hf
        refine p_sub (ls' := []) [] rfl ?_
        exact t_X5_takesLetter_20 h0   _ hf
theorem ok_X5_takesLetter : mOK M_X5_takesLetter 3 := ⟨tb_326, tb_3, by decide +kernel⟩
abbrev M_X5_beginsForm : MD := (yX5_beginsForm, cX5_beginsForm, 2, some .boolean)
abbrev rm_X5_beginsForm : Room := { frames := 2, cells := 0, slots := 0, locals := 46 }
def w_X5_beginsForm_35 (K : Int → Hh → Prop) (a0 : Int) (s0 : Int) (h : Hh) : Prop := (s0 = 0 ∨ s0 = 1) ∧ (K s0 h)
set_option maxRecDepth 100000 in
set_option maxHeartbeats 4000000 in
theorem t_X5_beginsForm_35 {G : Gx} {n0 : Int} {K : Int → Hh → Prop} {a0 : Int} (h0 : 0 ≤ a0)  (s0 : Int) (h : Hh) (hf : w_X5_beginsForm_35 K  a0 s0 h) : PW G M_X5_beginsForm rm_X5_beginsForm 0 0 [] n0 K 35 [] [vi s0] [] 0 0 h := by
  unfold w_X5_beginsForm_35 at hf
  obtain ⟨c3, hf⟩ := hf
  exact p_zret dX5_beginsForm_35 rfl (by decide) (by decide) (fun _ h => absurd h List.not_mem_nil) c3 hf
def w_X5_beginsForm (a0 x1 : Int) (h : Hh) (K : Int → Hh → Prop) : Prop := if h a0 2 < 5 then (if x1 ≠ 47 then (w_X5_takesLetter a0 x1 0 5 h (fun r1 h2 => w_X5_beginsForm_35 K  a0 r1 h2)) else (w_X5_goesOn a0 (h a0 5) 4 h (fun r4 h5 => w_X5_beginsForm_35 K  a0 r4 h5))) else (K 0 h)
set_option maxRecDepth 100000 in
set_option maxHeartbeats 4000000 in
theorem t_X5_beginsForm {G : Gx} (a0 x1 : Int) (h : Hh) (K : Int → Hh → Prop) (h0 : 0 ≤ a0) (hf : w_X5_beginsForm a0 x1 h K) : CT G M_X5_beginsForm rm_X5_beginsForm 0 0 [] [vr 5 a0 0, vi x1] h K := by
  unfold w_X5_beginsForm at hf
  refine CT.of (ls0 := [(0, vr 5 a0 0), (1, vi x1)]) (plainFor_of_name (by decide +kernel)) (by decide +kernel) (Nat.le_of_ble_eq_true rfl) rfl rfl ?_
  refine p_aload_n dX5_beginsForm_0 rfl 0 rfl ?_
  refine p_get (c := 5) (vi (h a0 2)) dX5_beginsForm_1 2 tb_51 (by decide) (by decide) (Or.inl rfl) h0 rfl rfl ?_
  refine p_iconst dX5_beginsForm_4 (by decide) ?_
  refine p_icmp_lt (tgt := 10) (q := h a0 2 < 5) dX5_beginsForm_5 (by decide) Iff.rfl (fun hc => ?_) (fun hc => ?_)
  · replace hf := Eq.mp (if_pos hc) hf
    refine p_iload_n dX5_beginsForm_10 rfl 1 rfl ?_
    refine p_bipush dX5_beginsForm_11 (by decide) (by decide) ?_
    refine p_icmp_ne (tgt := 28) (q := x1 ≠ 47) dX5_beginsForm_13 (by decide) Iff.rfl (fun hc => ?_) (fun hc => ?_)
    · replace hf := Eq.mp (if_pos hc) hf
      refine p_aload_n dX5_beginsForm_28 rfl 0 rfl ?_
      refine p_iload_n dX5_beginsForm_29 rfl 1 rfl ?_
      refine p_iconst dX5_beginsForm_30 (by decide) ?_
      refine p_iconst dX5_beginsForm_31 (by decide) ?_
      refine p_callVi dX5_beginsForm_32 M_X5_takesLetter (Or.inr rfl) [vi x1, vi 0, vi 5] (t_X5_takesLetter _ _ _ _ _ _ h0 hf) ok_X5_takesLetter rfl (c := 5) (by decide) h0 rfl tb_323 ⟨tb_325, ts_8⟩ rfl (Nat.le_of_ble_eq_true rfl) ⟨rfl, rfl⟩ ⟨by decide, by decide⟩ ⟨by decide, by decide⟩ (fun r1 h2 hf => ?_)
      refine p_sub (ls' := []) [] rfl ?_
      exact t_X5_beginsForm_35 h0  _ _ hf
    · replace hf := Eq.mp (if_neg hc) hf
      refine p_aload_n dX5_beginsForm_16 rfl 0 rfl ?_
      refine p_aload_n dX5_beginsForm_17 rfl 0 rfl ?_
      refine p_get (c := 5) (vi (h a0 5)) dX5_beginsForm_18 5 tb_55 (by decide) (by decide) (Or.inl rfl) h0 rfl rfl ?_
      refine p_iconst dX5_beginsForm_21 (by decide) ?_
      refine p_callVi dX5_beginsForm_22 M_X5_goesOn (Or.inr rfl) [vi (h a0 5), vi 4] (t_X5_goesOn _ _ _ _ _ h0 hf) ok_X5_goesOn rfl (c := 5) (by decide) h0 rfl tb_319 ⟨tb_321, ts_7⟩ rfl (Nat.le_of_ble_eq_true rfl) ⟨rfl, rfl⟩ ⟨by decide, by decide⟩ ⟨by decide, by decide⟩ (fun r4 h5 hf => ?_)
      refine p_goto (tgt := 35) dX5_beginsForm_25 (by decide) ?_
      refine p_sub (ls' := []) [] rfl ?_
      exact t_X5_beginsForm_35 h0  _ _ hf
  · replace hf := Eq.mp (if_neg hc) hf
    refine p_iconst dX5_beginsForm_8 (by decide) ?_
    exact p_zret dX5_beginsForm_9 rfl (by decide) (by decide) (fun _ h => absurd h List.not_mem_nil) (Or.inl rfl) hf
theorem ok_X5_beginsForm : mOK M_X5_beginsForm 1 := ⟨tb_318, tb_3, by decide +kernel⟩
abbrev M_X5_followsPart : MD := (yX5_followsPart, cX5_followsPart, 2, some .boolean)
abbrev rm_X5_followsPart : Room := { frames := 1, cells := 0, slots := 0, locals := 22 }
def w_X5_followsPart_84 (K : Int → Hh → Prop) (a0 : Int) (s0 : Int) (h : Hh) : Prop := (s0 = 0 ∨ s0 = 1) ∧ (K s0 h)
set_option maxRecDepth 100000 in
set_option maxHeartbeats 4000000 in
theorem t_X5_followsPart_84 {G : Gx} {n0 : Int} {K : Int → Hh → Prop} {a0 : Int} (h0 : 0 ≤ a0)  (s0 : Int) (h : Hh) (hf : w_X5_followsPart_84 K  a0 s0 h) : PW G M_X5_followsPart rm_X5_followsPart 0 0 [] n0 K 84 [] [vi s0] [] 0 0 h := by
  unfold w_X5_followsPart_84 at hf
  obtain ⟨c1, hf⟩ := hf
  exact p_zret dX5_followsPart_84 rfl (by decide) (by decide) (fun _ h => absurd h List.not_mem_nil) c1 hf
def w_X5_followsPart_83 (K : Int → Hh → Prop) (a0 : Int) (h : Hh) : Prop := w_X5_followsPart_84 K  a0 0 h
set_option maxRecDepth 100000 in
set_option maxHeartbeats 4000000 in
theorem t_X5_followsPart_83 {G : Gx} {n0 : Int} {K : Int → Hh → Prop} {a0 : Int} (h0 : 0 ≤ a0)  (h : Hh) (hf : w_X5_followsPart_83 K  a0  h) : PW G M_X5_followsPart rm_X5_followsPart 0 0 [] n0 K 83 [] [] [] 0 0 h := by
  unfold w_X5_followsPart_83 at hf
  refine p_iconst dX5_followsPart_83 (by decide) ?_
  exact t_X5_followsPart_84 h0  _ _ hf
def w_X5_followsPart_28 (K : Int → Hh → Prop) (a0 : Int) (s0 : Int) (h : Hh) : Prop := (s0 = 0 ∨ s0 = 1) ∧ (K s0 h)
set_option maxRecDepth 100000 in
set_option maxHeartbeats 4000000 in
theorem t_X5_followsPart_28 {G : Gx} {n0 : Int} {K : Int → Hh → Prop} {a0 : Int} (h0 : 0 ≤ a0)  (s0 : Int) (h : Hh) (hf : w_X5_followsPart_28 K  a0 s0 h) : PW G M_X5_followsPart rm_X5_followsPart 0 0 [] n0 K 28 [] [vi s0] [] 0 0 h := by
  unfold w_X5_followsPart_28 at hf
  obtain ⟨c10, hf⟩ := hf
  exact p_zret dX5_followsPart_28 rfl (by decide) (by decide) (fun _ h => absurd h List.not_mem_nil) c10 hf
def w_X5_followsPart_27 (K : Int → Hh → Prop) (a0 : Int) (h : Hh) : Prop := w_X5_followsPart_28 K  a0 0 h
set_option maxRecDepth 100000 in
set_option maxHeartbeats 4000000 in
theorem t_X5_followsPart_27 {G : Gx} {n0 : Int} {K : Int → Hh → Prop} {a0 : Int} (h0 : 0 ≤ a0)  (h : Hh) (hf : w_X5_followsPart_27 K  a0  h) : PW G M_X5_followsPart rm_X5_followsPart 0 0 [] n0 K 27 [] [] [] 0 0 h := by
  unfold w_X5_followsPart_27 at hf
  refine p_iconst dX5_followsPart_27 (by decide) ?_
  exact t_X5_followsPart_28 h0  _ _ hf
def w_X5_followsPart (a0 x1 : Int) (h : Hh) (K : Int → Hh → Prop) : Prop := if h a0 2 ≠ 1 then (if x1 ≠ 43 then (if x1 ≠ 45 then (if x1 ≠ 59 then (w_X5_followsPart_83 K  a0  h) else (if h a0 2 < 3 then (w_X5_followsPart_83 K  a0  h) else (w_X5_goesOn a0 1 8 h (fun r2 h3 => if r2 = 0 then (w_X5_followsPart_83 K  a0  h3) else (w_X5_followsPart_84 K  a0 1 h3))))) else (w_X5_goesOn a0 (-1) 3 h (fun r4 h5 => (r4 = 0 ∨ r4 = 1) ∧ (K r4 h5)))) else (w_X5_goesOn a0 1 3 h (fun r7 h8 => (r7 = 0 ∨ r7 = 1) ∧ (K r7 h8)))) else (if x1 ≠ 61 then (w_X5_followsPart_27 K  a0  h) else (w_X5_goesOn a0 1 1 h (fun r11 h12 => if r11 = 0 then (w_X5_followsPart_27 K  a0  h12) else (w_X5_followsPart_28 K  a0 1 h12))))
set_option maxRecDepth 100000 in
set_option maxHeartbeats 4000000 in
theorem t_X5_followsPart {G : Gx} (a0 x1 : Int) (h : Hh) (K : Int → Hh → Prop) (h0 : 0 ≤ a0) (hf : w_X5_followsPart a0 x1 h K) : CT G M_X5_followsPart rm_X5_followsPart 0 0 [] [vr 5 a0 0, vi x1] h K := by
  unfold w_X5_followsPart at hf
  refine CT.of (ls0 := [(0, vr 5 a0 0), (1, vi x1)]) (plainFor_of_name (by decide +kernel)) (by decide +kernel) (Nat.le_of_ble_eq_true rfl) rfl rfl ?_
  refine p_aload_n dX5_followsPart_0 rfl 0 rfl ?_
  refine p_get (c := 5) (vi (h a0 2)) dX5_followsPart_1 2 tb_51 (by decide) (by decide) (Or.inl rfl) h0 rfl rfl ?_
  refine p_iconst dX5_followsPart_4 (by decide) ?_
  refine p_icmp_ne (tgt := 29) (q := h a0 2 ≠ 1) dX5_followsPart_5 (by decide) Iff.rfl (fun hc => ?_) (fun hc => ?_)
  · replace hf := Eq.mp (if_pos hc) hf
    refine p_iload_n dX5_followsPart_29 rfl 1 rfl ?_
    refine p_bipush dX5_followsPart_30 (by decide) (by decide) ?_
    refine p_icmp_ne (tgt := 42) (q := x1 ≠ 43) dX5_followsPart_32 (by decide) Iff.rfl (fun hc => ?_) (fun hc => ?_)
    · replace hf := Eq.mp (if_pos hc) hf
      refine p_iload_n dX5_followsPart_42 rfl 1 rfl ?_
      refine p_bipush dX5_followsPart_43 (by decide) (by decide) ?_
      refine p_icmp_ne (tgt := 55) (q := x1 ≠ 45) dX5_followsPart_45 (by decide) Iff.rfl (fun hc => ?_) (fun hc => ?_)
      · replace hf := Eq.mp (if_pos hc) hf
        refine p_iload_n dX5_followsPart_55 rfl 1 rfl ?_
        refine p_bipush dX5_followsPart_56 (by decide) (by decide) ?_
        refine p_icmp_ne (tgt := 83) (q := x1 ≠ 59) dX5_followsPart_58 (by decide) Iff.rfl (fun hc => ?_) (fun hc => ?_)
        · replace hf := Eq.mp (if_pos hc) hf
          refine p_sub (ls' := []) [] rfl ?_
          exact t_X5_followsPart_83 h0   _ hf
        · replace hf := Eq.mp (if_neg hc) hf
          refine p_aload_n dX5_followsPart_61 rfl 0 rfl ?_
          refine p_get (c := 5) (vi (h a0 2)) dX5_followsPart_62 2 tb_51 (by decide) (by decide) (Or.inl rfl) h0 rfl rfl ?_
          refine p_iconst dX5_followsPart_65 (by decide) ?_
          refine p_icmp_lt (tgt := 83) (q := h a0 2 < 3) dX5_followsPart_66 (by decide) Iff.rfl (fun hc => ?_) (fun hc => ?_)
          · replace hf := Eq.mp (if_pos hc) hf
            refine p_sub (ls' := []) [] rfl ?_
            exact t_X5_followsPart_83 h0   _ hf
          · replace hf := Eq.mp (if_neg hc) hf
            refine p_aload_n dX5_followsPart_69 rfl 0 rfl ?_
            refine p_iconst dX5_followsPart_70 (by decide) ?_
            refine p_bipush dX5_followsPart_71 (by decide) (by decide) ?_
            refine p_callVi dX5_followsPart_73 M_X5_goesOn (Or.inr rfl) [vi 1, vi 8] (t_X5_goesOn _ _ _ _ _ h0 hf) ok_X5_goesOn rfl (c := 5) (by decide) h0 rfl tb_319 ⟨tb_321, ts_7⟩ rfl (Nat.le_of_ble_eq_true rfl) ⟨rfl, rfl⟩ ⟨by decide, by decide⟩ ⟨by decide, by decide⟩ (fun r2 h3 hf => ?_)
            refine p_if_eq (tgt := 83) (q := r2 = 0) dX5_followsPart_76 (by decide) Iff.rfl (fun hc => ?_) (fun hc => ?_)
            · replace hf := Eq.mp (if_pos hc) hf
              refine p_sub (ls' := []) [] rfl ?_
              exact t_X5_followsPart_83 h0   _ hf
            · replace hf := Eq.mp (if_neg hc) hf
              refine p_iconst dX5_followsPart_79 (by decide) ?_
              refine p_goto (tgt := 84) dX5_followsPart_80 (by decide) ?_
              refine p_sub (ls' := []) [] rfl ?_
              exact t_X5_followsPart_84 h0  _ _ hf
      · replace hf := Eq.mp (if_neg hc) hf
        refine p_aload_n dX5_followsPart_48 rfl 0 rfl ?_
        refine p_iconst dX5_followsPart_49 (by decide) ?_
        refine p_iconst dX5_followsPart_50 (by decide) ?_
        refine p_callVi dX5_followsPart_51 M_X5_goesOn (Or.inr rfl) [vi (-1), vi 3] (t_X5_goesOn _ _ _ _ _ h0 hf) ok_X5_goesOn rfl (c := 5) (by decide) h0 rfl tb_319 ⟨tb_321, ts_7⟩ rfl (Nat.le_of_ble_eq_true rfl) ⟨rfl, rfl⟩ ⟨by decide, by decide⟩ ⟨by decide, by decide⟩ (fun r4 h5 hf => ?_)
        obtain ⟨c6, hf⟩ := hf
        exact p_zret dX5_followsPart_54 rfl (by decide) (by decide) (fun _ h => absurd h List.not_mem_nil) c6 hf
    · replace hf := Eq.mp (if_neg hc) hf
      refine p_aload_n dX5_followsPart_35 rfl 0 rfl ?_
      refine p_iconst dX5_followsPart_36 (by decide) ?_
      refine p_iconst dX5_followsPart_37 (by decide) ?_
      refine p_callVi dX5_followsPart_38 M_X5_goesOn (Or.inr rfl) [vi 1, vi 3] (t_X5_goesOn _ _ _ _ _ h0 hf) ok_X5_goesOn rfl (c := 5) (by decide) h0 rfl tb_319 ⟨tb_321, ts_7⟩ rfl (Nat.le_of_ble_eq_true rfl) ⟨rfl, rfl⟩ ⟨by decide, by decide⟩ ⟨by decide, by decide⟩ (fun r7 h8 hf => ?_)
      obtain ⟨c9, hf⟩ := hf
      exact p_zret dX5_followsPart_41 rfl (by decide) (by decide) (fun _ h => absurd h List.not_mem_nil) c9 hf
  · replace hf := Eq.mp (if_neg hc) hf
    refine p_iload_n dX5_followsPart_8 rfl 1 rfl ?_
    refine p_bipush dX5_followsPart_9 (by decide) (by decide) ?_
    refine p_icmp_ne (tgt := 27) (q := x1 ≠ 61) dX5_followsPart_11 (by decide) Iff.rfl (fun hc => ?_) (fun hc => ?_)
    · replace hf := Eq.mp (if_pos hc) hf
      refine p_sub (ls' := []) [] rfl ?_
      exact t_X5_followsPart_27 h0   _ hf
    · replace hf := Eq.mp (if_neg hc) hf
      refine p_aload_n dX5_followsPart_14 rfl 0 rfl ?_
      refine p_iconst dX5_followsPart_15 (by decide) ?_
      refine p_iconst dX5_followsPart_16 (by decide) ?_
      refine p_callVi dX5_followsPart_17 M_X5_goesOn (Or.inr rfl) [vi 1, vi 1] (t_X5_goesOn _ _ _ _ _ h0 hf) ok_X5_goesOn rfl (c := 5) (by decide) h0 rfl tb_319 ⟨tb_321, ts_7⟩ rfl (Nat.le_of_ble_eq_true rfl) ⟨rfl, rfl⟩ ⟨by decide, by decide⟩ ⟨by decide, by decide⟩ (fun r11 h12 hf => ?_)
      refine p_if_eq (tgt := 27) (q := r11 = 0) dX5_followsPart_20 (by decide) Iff.rfl (fun hc => ?_) (fun hc => ?_)
      · replace hf := Eq.mp (if_pos hc) hf
        refine p_sub (ls' := []) [] rfl ?_
        exact t_X5_followsPart_27 h0   _ hf
      · replace hf := Eq.mp (if_neg hc) hf
        refine p_iconst dX5_followsPart_23 (by decide) ?_
        refine p_goto (tgt := 28) dX5_followsPart_24 (by decide) ?_
        refine p_sub (ls' := []) [] rfl ?_
        exact t_X5_followsPart_28 h0  _ _ hf
theorem ok_X5_followsPart : mOK M_X5_followsPart 1 := ⟨tb_330, tb_3, by decide +kernel⟩
abbrev M_X5_squares : MD := (yX5_squares, cX5_squares, 2, some .boolean)
abbrev rm_X5_squares : Room := { frames := 1, cells := 0, slots := 0, locals := 22 }
def w_X5_squares_24 (K : Int → Hh → Prop) (a0 : Int) (h : Hh) : Prop := K 0 h
set_option maxRecDepth 100000 in
set_option maxHeartbeats 4000000 in
theorem t_X5_squares_24 {G : Gx} {n0 : Int} {K : Int → Hh → Prop} {a0 : Int} (h0 : 0 ≤ a0)  (h : Hh) (hf : w_X5_squares_24 K  a0  h) : PW G M_X5_squares rm_X5_squares 0 0 [] n0 K 24 [] [] [] 0 0 h := by
  unfold w_X5_squares_24 at hf
  refine p_iconst dX5_squares_24 (by decide) ?_
  exact p_zret dX5_squares_25 rfl (by decide) (by decide) (fun _ h => absurd h List.not_mem_nil) (Or.inl rfl) hf
def w_X5_squares (a0 x1 : Int) (h : Hh) (K : Int → Hh → Prop) : Prop := if x1 ≠ h a0 6 then (w_X5_squares_24 K  a0  h) else (if h a0 2 < 1 then (w_X5_squares_24 K  a0  h) else (if h a0 2 ≤ 5 then (((0 : Int) ≤ w32 ((h a0 2) - 1) ∧ (w32 ((h a0 2) - 1) : Int) < 5) ∧ (hb (up h (a0 + 1) (w32 ((h a0 2) - 1)) 1) fun h2 => w_X5_goesOn a0 (h2 a0 5) 7 h2 (fun r3 h4 => (r3 = 0 ∨ r3 = 1) ∧ (K r3 h4)))) else (w_X5_squares_24 K  a0  h)))
set_option maxRecDepth 100000 in
set_option maxHeartbeats 4000000 in
theorem t_X5_squares {G : Gx} (a0 x1 : Int) (h : Hh) (K : Int → Hh → Prop) (h0 : 0 ≤ a0) (hf : w_X5_squares a0 x1 h K) : CT G M_X5_squares rm_X5_squares 0 0 [] [vr 5 a0 0, vi x1] h K := by
  unfold w_X5_squares at hf
  refine CT.of (ls0 := [(0, vr 5 a0 0), (1, vi x1)]) (plainFor_of_name (by decide +kernel)) (by decide +kernel) (Nat.le_of_ble_eq_true rfl) rfl rfl ?_
  refine p_iload_n dX5_squares_0 rfl 1 rfl ?_
  refine p_aload_n dX5_squares_1 rfl 0 rfl ?_
  refine p_get (c := 5) (vi (h a0 6)) dX5_squares_2 6 tb_56 (by decide) (by decide) (Or.inl rfl) h0 rfl rfl ?_
  refine p_icmp_ne (tgt := 24) (q := x1 ≠ h a0 6) dX5_squares_5 (by decide) Iff.rfl (fun hc => ?_) (fun hc => ?_)
  · replace hf := Eq.mp (if_pos hc) hf
    refine p_sub (ls' := []) [] rfl ?_
    exact t_X5_squares_24 h0   _ hf
  · replace hf := Eq.mp (if_neg hc) hf
    refine p_aload_n dX5_squares_8 rfl 0 rfl ?_
    refine p_get (c := 5) (vi (h a0 2)) dX5_squares_9 2 tb_51 (by decide) (by decide) (Or.inl rfl) h0 rfl rfl ?_
    refine p_iconst dX5_squares_12 (by decide) ?_
    refine p_icmp_lt (tgt := 24) (q := h a0 2 < 1) dX5_squares_13 (by decide) Iff.rfl (fun hc => ?_) (fun hc => ?_)
    · replace hf := Eq.mp (if_pos hc) hf
      refine p_sub (ls' := []) [] rfl ?_
      exact t_X5_squares_24 h0   _ hf
    · replace hf := Eq.mp (if_neg hc) hf
      refine p_aload_n dX5_squares_16 rfl 0 rfl ?_
      refine p_get (c := 5) (vi (h a0 2)) dX5_squares_17 2 tb_51 (by decide) (by decide) (Or.inl rfl) h0 rfl rfl ?_
      refine p_iconst dX5_squares_20 (by decide) ?_
      refine p_icmp_le (tgt := 26) (q := h a0 2 ≤ 5) dX5_squares_21 (by decide) Iff.rfl (fun hc => ?_) (fun hc => ?_)
      · replace hf := Eq.mp (if_pos hc) hf
        refine p_aload_n dX5_squares_26 rfl 0 rfl ?_
        refine p_lay (c := 5) (tq := 100) (n := 5) dX5_squares_27 0 1 tb_46 (by decide) (by decide) h0 (by decide) (by decide) (fun _ => rfl) (vr 100 (a0 + 1) 5) rfl ?_
        refine p_aload_n dX5_squares_30 rfl 0 rfl ?_
        refine p_get (c := 5) (vi (h a0 2)) dX5_squares_31 2 tb_51 (by decide) (by decide) (Or.inl rfl) h0 rfl rfl ?_
        refine p_iconst dX5_squares_34 (by decide) ?_
        refine p_isub dX5_squares_35 ?_
        refine p_iconst dX5_squares_36 (by decide) ?_
        obtain ⟨c1, hf⟩ := hf
        refine p_iast dX5_squares_37 (nnk h0 (by decide)) c1 ?_
        replace hf := hb_e hf
        generalize up h (a0 + 1) (w32 ((h a0 2) - 1)) 1 = h2 at hf ⊢
        refine p_aload_n dX5_squares_38 rfl 0 rfl ?_
        refine p_aload_n dX5_squares_39 rfl 0 rfl ?_
        refine p_get (c := 5) (vi (h2 a0 5)) dX5_squares_40 5 tb_55 (by decide) (by decide) (Or.inl rfl) h0 rfl rfl ?_
        refine p_bipush dX5_squares_43 (by decide) (by decide) ?_
        refine p_callVi dX5_squares_45 M_X5_goesOn (Or.inr rfl) [vi (h2 a0 5), vi 7] (t_X5_goesOn _ _ _ _ _ h0 hf) ok_X5_goesOn rfl (c := 5) (by decide) h0 rfl tb_319 ⟨tb_321, ts_7⟩ rfl (Nat.le_of_ble_eq_true rfl) ⟨rfl, rfl⟩ ⟨by decide, by decide⟩ ⟨by decide, by decide⟩ (fun r3 h4 hf => ?_)
        obtain ⟨c5, hf⟩ := hf
        exact p_zret dX5_squares_48 rfl (by decide) (by decide) (fun _ h => absurd h List.not_mem_nil) c5 hf
      · replace hf := Eq.mp (if_neg hc) hf
        refine p_sub (ls' := []) [] rfl ?_
        exact t_X5_squares_24 h0   _ hf
theorem ok_X5_squares : mOK M_X5_squares 1 := ⟨tb_334, tb_3, by decide +kernel⟩
abbrev M_X5_takes : MD := (yX5_takes, cX5_takes, 2, some .boolean)
abbrev rm_X5_takes : Room := { frames := 3, cells := 0, slots := 0, locals := 67 }
def w_X5_takes_52 (K : Int → Hh → Prop) (a0 : Int) (v1 : Int) (h : Hh) : Prop := w_X5_beginsForm a0 v1 h (fun r1 h2 => (r1 = 0 ∨ r1 = 1) ∧ (K r1 h2))
set_option maxRecDepth 100000 in
set_option maxHeartbeats 4000000 in
theorem t_X5_takes_52 {G : Gx} {n0 : Int} {K : Int → Hh → Prop} {a0 : Int} (h0 : 0 ≤ a0)  (v1 : Int) (h : Hh) (hf : w_X5_takes_52 K  a0 v1 h) : PW G M_X5_takes rm_X5_takes 0 0 [] n0 K 52 [(0, vr 5 a0 0), (1, vi v1)] [] [] 0 0 h := by
  unfold w_X5_takes_52 at hf
  refine p_aload_n dX5_takes_52 rfl 0 rfl ?_
  refine p_iload_n dX5_takes_53 rfl 1 rfl ?_
  refine p_callVi dX5_takes_54 M_X5_beginsForm (Or.inr rfl) [vi v1] (t_X5_beginsForm _ _ _ _ h0 hf) ok_X5_beginsForm rfl (c := 5) (by decide) h0 rfl tb_315 ⟨tb_317, ts_6⟩ rfl (Nat.le_of_ble_eq_true rfl) ⟨rfl, rfl⟩ ⟨by decide, by decide⟩ ⟨by decide, by decide⟩ (fun r1 h2 hf => ?_)
  obtain ⟨c3, hf⟩ := hf
  exact p_zret dX5_takes_57 rfl (by decide) (by decide) (fun _ h => absurd h List.not_mem_nil) c3 hf
def w_X5_takes_78 (K : Int → Hh → Prop) (a0 : Int) (s0 : Int) (h : Hh) : Prop := (s0 = 0 ∨ s0 = 1) ∧ (K s0 h)
set_option maxRecDepth 100000 in
set_option maxHeartbeats 4000000 in
theorem t_X5_takes_78 {G : Gx} {n0 : Int} {K : Int → Hh → Prop} {a0 : Int} (h0 : 0 ≤ a0)  (s0 : Int) (h : Hh) (hf : w_X5_takes_78 K  a0 s0 h) : PW G M_X5_takes rm_X5_takes 0 0 [] n0 K 78 [] [vi s0] [] 0 0 h := by
  unfold w_X5_takes_78 at hf
  obtain ⟨c6, hf⟩ := hf
  exact p_zret dX5_takes_78 rfl (by decide) (by decide) (fun _ h => absurd h List.not_mem_nil) c6 hf
def w_X5_takes_112 (K : Int → Hh → Prop) (a0 : Int) (s0 : Int) (h : Hh) : Prop := (s0 = 0 ∨ s0 = 1) ∧ (K s0 h)
set_option maxRecDepth 100000 in
set_option maxHeartbeats 4000000 in
theorem t_X5_takes_112 {G : Gx} {n0 : Int} {K : Int → Hh → Prop} {a0 : Int} (h0 : 0 ≤ a0)  (s0 : Int) (h : Hh) (hf : w_X5_takes_112 K  a0 s0 h) : PW G M_X5_takes rm_X5_takes 0 0 [] n0 K 112 [] [vi s0] [] 0 0 h := by
  unfold w_X5_takes_112 at hf
  obtain ⟨c14, hf⟩ := hf
  exact p_zret dX5_takes_112 rfl (by decide) (by decide) (fun _ h => absurd h List.not_mem_nil) c14 hf
def w_X5_takes (a0 x1 : Int) (h : Hh) (K : Int → Hh → Prop) : Prop := if h a0 4 = 0 then (w_X5_takes_52 K  a0 x1 h) else (if h a0 4 = 1 then (if x1 ≠ 45 then (w_X5_beginsForm a0 x1 h (fun r4 h5 => w_X5_takes_78 K  a0 r4 h5)) else (w_X5_goesOn a0 (-1) 2 h (fun r7 h8 => w_X5_takes_78 K  a0 r7 h8))) else (if h a0 4 = 2 then (w_X5_takes_52 K  a0 x1 h) else (if h a0 4 = 3 then (w_X5_takes_52 K  a0 x1 h) else (if h a0 4 = 4 then (w_X5_takesLetter a0 x1 2 7 h (fun r9 h10 => (r9 = 0 ∨ r9 = 1) ∧ (K r9 h10))) else (if h a0 4 = 5 then (if x1 ≠ 42 then (w_X5_followsPart a0 x1 h (fun r12 h13 => w_X5_takes_112 K  a0 r12 h13)) else (w_X5_goesOn a0 (h a0 5) 6 h (fun r15 h16 => w_X5_takes_112 K  a0 r15 h16))) else (if h a0 4 = 6 then (w_X5_squares a0 x1 h (fun r17 h18 => (r17 = 0 ∨ r17 = 1) ∧ (K r17 h18))) else (if h a0 4 = 7 then (w_X5_followsPart a0 x1 h (fun r20 h21 => (r20 = 0 ∨ r20 = 1) ∧ (K r20 h21))) else (K 0 h))))))))
set_option maxRecDepth 100000 in
set_option maxHeartbeats 4000000 in
theorem t_X5_takes {G : Gx} (a0 x1 : Int) (h : Hh) (K : Int → Hh → Prop) (h0 : 0 ≤ a0) (hf : w_X5_takes a0 x1 h K) : CT G M_X5_takes rm_X5_takes 0 0 [] [vr 5 a0 0, vi x1] h K := by
  unfold w_X5_takes at hf
  refine CT.of (ls0 := [(0, vr 5 a0 0), (1, vi x1)]) (plainFor_of_name (by decide +kernel)) (by decide +kernel) (Nat.le_of_ble_eq_true rfl) rfl rfl ?_
  refine p_aload_n dX5_takes_0 rfl 0 rfl ?_
  refine p_get (c := 5) (vi (h a0 4)) dX5_takes_1 4 tb_54 (by decide) (by decide) (Or.inl rfl) h0 rfl rfl ?_
  by_cases hc : h a0 4 = 0
  · replace hf := Eq.mp (if_pos hc) hf
    refine p_tsIn (tgt := 52) (off := 48) dX5_takes_4 (by omega) (by omega) (by rw [hc]; rfl) (by decide) ?_
    exact t_X5_takes_52 h0  _ _ hf
  replace hf := Eq.mp (if_neg hc) hf
  have hc4_0 := hc
  clear hc
  by_cases hc : h a0 4 = 1
  · replace hf := Eq.mp (if_pos hc) hf
    refine p_tsIn (tgt := 58) (off := 54) dX5_takes_4 (by omega) (by omega) (by rw [hc]; rfl) (by decide) ?_
    refine p_iload_n dX5_takes_58 rfl 1 rfl ?_
    refine p_bipush dX5_takes_59 (by decide) (by decide) ?_
    refine p_icmp_ne (tgt := 73) (q := x1 ≠ 45) dX5_takes_61 (by decide) Iff.rfl (fun hc => ?_) (fun hc => ?_)
    · replace hf := Eq.mp (if_pos hc) hf
      refine p_aload_n dX5_takes_73 rfl 0 rfl ?_
      refine p_iload_n dX5_takes_74 rfl 1 rfl ?_
      refine p_callVi dX5_takes_75 M_X5_beginsForm (Or.inr rfl) [vi x1] (t_X5_beginsForm _ _ _ _ h0 hf) ok_X5_beginsForm rfl (c := 5) (by decide) h0 rfl tb_315 ⟨tb_317, ts_6⟩ rfl (Nat.le_of_ble_eq_true rfl) ⟨rfl, rfl⟩ ⟨by decide, by decide⟩ ⟨by decide, by decide⟩ (fun r4 h5 hf => ?_)
      refine p_sub (ls' := []) [] rfl ?_
      exact t_X5_takes_78 h0  _ _ hf
    · replace hf := Eq.mp (if_neg hc) hf
      refine p_aload_n dX5_takes_64 rfl 0 rfl ?_
      refine p_iconst dX5_takes_65 (by decide) ?_
      refine p_iconst dX5_takes_66 (by decide) ?_
      refine p_callVi dX5_takes_67 M_X5_goesOn (Or.inr rfl) [vi (-1), vi 2] (t_X5_goesOn _ _ _ _ _ h0 hf) ok_X5_goesOn rfl (c := 5) (by decide) h0 rfl tb_319 ⟨tb_321, ts_7⟩ rfl (Nat.le_of_ble_eq_true rfl) ⟨rfl, rfl⟩ ⟨by decide, by decide⟩ ⟨by decide, by decide⟩ (fun r7 h8 hf => ?_)
      refine p_goto (tgt := 78) dX5_takes_70 (by decide) ?_
      refine p_sub (ls' := []) [] rfl ?_
      exact t_X5_takes_78 h0  _ _ hf
  replace hf := Eq.mp (if_neg hc) hf
  have hc4_1 := hc
  clear hc
  by_cases hc : h a0 4 = 2
  · replace hf := Eq.mp (if_pos hc) hf
    refine p_tsIn (tgt := 52) (off := 48) dX5_takes_4 (by omega) (by omega) (by rw [hc]; rfl) (by decide) ?_
    exact t_X5_takes_52 h0  _ _ hf
  replace hf := Eq.mp (if_neg hc) hf
  have hc4_2 := hc
  clear hc
  by_cases hc : h a0 4 = 3
  · replace hf := Eq.mp (if_pos hc) hf
    refine p_tsIn (tgt := 52) (off := 48) dX5_takes_4 (by omega) (by omega) (by rw [hc]; rfl) (by decide) ?_
    exact t_X5_takes_52 h0  _ _ hf
  replace hf := Eq.mp (if_neg hc) hf
  have hc4_3 := hc
  clear hc
  by_cases hc : h a0 4 = 4
  · replace hf := Eq.mp (if_pos hc) hf
    refine p_tsIn (tgt := 79) (off := 75) dX5_takes_4 (by omega) (by omega) (by rw [hc]; rfl) (by decide) ?_
    refine p_aload_n dX5_takes_79 rfl 0 rfl ?_
    refine p_iload_n dX5_takes_80 rfl 1 rfl ?_
    refine p_iconst dX5_takes_81 (by decide) ?_
    refine p_bipush dX5_takes_82 (by decide) (by decide) ?_
    refine p_callVi dX5_takes_84 M_X5_takesLetter (Or.inr rfl) [vi x1, vi 2, vi 7] (t_X5_takesLetter _ _ _ _ _ _ h0 hf) ok_X5_takesLetter rfl (c := 5) (by decide) h0 rfl tb_323 ⟨tb_325, ts_8⟩ rfl (Nat.le_of_ble_eq_true rfl) ⟨rfl, rfl⟩ ⟨by decide, by decide⟩ ⟨by decide, by decide⟩ (fun r9 h10 hf => ?_)
    obtain ⟨c11, hf⟩ := hf
    exact p_zret dX5_takes_87 rfl (by decide) (by decide) (fun _ h => absurd h List.not_mem_nil) c11 hf
  replace hf := Eq.mp (if_neg hc) hf
  have hc4_4 := hc
  clear hc
  by_cases hc : h a0 4 = 5
  · replace hf := Eq.mp (if_pos hc) hf
    refine p_tsIn (tgt := 88) (off := 84) dX5_takes_4 (by omega) (by omega) (by rw [hc]; rfl) (by decide) ?_
    refine p_iload_n dX5_takes_88 rfl 1 rfl ?_
    refine p_bipush dX5_takes_89 (by decide) (by decide) ?_
    refine p_icmp_ne (tgt := 107) (q := x1 ≠ 42) dX5_takes_91 (by decide) Iff.rfl (fun hc => ?_) (fun hc => ?_)
    · replace hf := Eq.mp (if_pos hc) hf
      refine p_aload_n dX5_takes_107 rfl 0 rfl ?_
      refine p_iload_n dX5_takes_108 rfl 1 rfl ?_
      refine p_callVi dX5_takes_109 M_X5_followsPart (Or.inr rfl) [vi x1] (t_X5_followsPart _ _ _ _ h0 hf) ok_X5_followsPart rfl (c := 5) (by decide) h0 rfl tb_327 ⟨tb_329, ts_9⟩ rfl (Nat.le_of_ble_eq_true rfl) ⟨rfl, rfl⟩ ⟨by decide, by decide⟩ ⟨by decide, by decide⟩ (fun r12 h13 hf => ?_)
      refine p_sub (ls' := []) [] rfl ?_
      exact t_X5_takes_112 h0  _ _ hf
    · replace hf := Eq.mp (if_neg hc) hf
      refine p_aload_n dX5_takes_94 rfl 0 rfl ?_
      refine p_aload_n dX5_takes_95 rfl 0 rfl ?_
      refine p_get (c := 5) (vi (h a0 5)) dX5_takes_96 5 tb_55 (by decide) (by decide) (Or.inl rfl) h0 rfl rfl ?_
      refine p_bipush dX5_takes_99 (by decide) (by decide) ?_
      refine p_callVi dX5_takes_101 M_X5_goesOn (Or.inr rfl) [vi (h a0 5), vi 6] (t_X5_goesOn _ _ _ _ _ h0 hf) ok_X5_goesOn rfl (c := 5) (by decide) h0 rfl tb_319 ⟨tb_321, ts_7⟩ rfl (Nat.le_of_ble_eq_true rfl) ⟨rfl, rfl⟩ ⟨by decide, by decide⟩ ⟨by decide, by decide⟩ (fun r15 h16 hf => ?_)
      refine p_goto (tgt := 112) dX5_takes_104 (by decide) ?_
      refine p_sub (ls' := []) [] rfl ?_
      exact t_X5_takes_112 h0  _ _ hf
  replace hf := Eq.mp (if_neg hc) hf
  have hc4_5 := hc
  clear hc
  by_cases hc : h a0 4 = 6
  · replace hf := Eq.mp (if_pos hc) hf
    refine p_tsIn (tgt := 113) (off := 109) dX5_takes_4 (by omega) (by omega) (by rw [hc]; rfl) (by decide) ?_
    refine p_aload_n dX5_takes_113 rfl 0 rfl ?_
    refine p_iload_n dX5_takes_114 rfl 1 rfl ?_
    refine p_callVi dX5_takes_115 M_X5_squares (Or.inr rfl) [vi x1] (t_X5_squares _ _ _ _ h0 hf) ok_X5_squares rfl (c := 5) (by decide) h0 rfl tb_331 ⟨tb_333, ts_10⟩ rfl (Nat.le_of_ble_eq_true rfl) ⟨rfl, rfl⟩ ⟨by decide, by decide⟩ ⟨by decide, by decide⟩ (fun r17 h18 hf => ?_)
    obtain ⟨c19, hf⟩ := hf
    exact p_zret dX5_takes_118 rfl (by decide) (by decide) (fun _ h => absurd h List.not_mem_nil) c19 hf
  replace hf := Eq.mp (if_neg hc) hf
  have hc4_6 := hc
  clear hc
  by_cases hc : h a0 4 = 7
  · replace hf := Eq.mp (if_pos hc) hf
    refine p_tsIn (tgt := 119) (off := 115) dX5_takes_4 (by omega) (by omega) (by rw [hc]; rfl) (by decide) ?_
    refine p_aload_n dX5_takes_119 rfl 0 rfl ?_
    refine p_iload_n dX5_takes_120 rfl 1 rfl ?_
    refine p_callVi dX5_takes_121 M_X5_followsPart (Or.inr rfl) [vi x1] (t_X5_followsPart _ _ _ _ h0 hf) ok_X5_followsPart rfl (c := 5) (by decide) h0 rfl tb_327 ⟨tb_329, ts_9⟩ rfl (Nat.le_of_ble_eq_true rfl) ⟨rfl, rfl⟩ ⟨by decide, by decide⟩ ⟨by decide, by decide⟩ (fun r20 h21 hf => ?_)
    obtain ⟨c22, hf⟩ := hf
    exact p_zret dX5_takes_124 rfl (by decide) (by decide) (fun _ h => absurd h List.not_mem_nil) c22 hf
  replace hf := Eq.mp (if_neg hc) hf
  have hc4_7 := hc
  clear hc
  refine p_tsOut (tgt := 125) dX5_takes_4 (by omega) (by decide) ?_
  refine p_iconst dX5_takes_125 (by decide) ?_
  exact p_zret dX5_takes_126 rfl (by decide) (by decide) (fun _ h => absurd h List.not_mem_nil) (Or.inl rfl) hf
theorem ok_X5_takes : mOK M_X5_takes 1 := ⟨tb_314, tb_3, by decide +kernel⟩
abbrev M_X5_faultOf : MD := (yX5_faultOf, cX5_faultOf, 6, some .int)
abbrev rm_X5_faultOf : Room := { frames := 4, cells := 0, slots := 0, locals := 88 }
def w_X5_faultOf_114 (K : Int → Hh → Prop) (B : Int → Int → Int → Int → Hh → Prop) (X120 : Int → Hh → Prop) (a0 : Int) (v1 v2 v3 v4 : Int) (h : Hh) : Prop := vb (w32 (v4 + 1)) fun z5 => B v1 v2 v3 z5 h
set_option maxRecDepth 100000 in
set_option maxHeartbeats 4000000 in
theorem t_X5_faultOf_114 {G : Gx} {n0 : Int} {K : Int → Hh → Prop} {B : Int → Int → Int → Int → Hh → Prop} {X120 : Int → Hh → Prop} {a0 : Int} (h0 : 0 ≤ a0) (hB : ∀ (v1 v2 v3 v4 : Int) (h : Hh), B v1 v2 v3 v4 h → PW G M_X5_faultOf rm_X5_faultOf 0 0 [] n0 K 11 [(0, vr 5 a0 0), (1, vr 8 v1 0), (2, vi v2), (3, vi v3), (4, vi v4)] [] [] 0 0 h) (hX120 : ∀ (v1 : Int) (h : Hh), X120 v1 h → PW G M_X5_faultOf rm_X5_faultOf 0 0 [] n0 K 120 [(0, vr 5 a0 0), (1, vr 8 v1 0)] [] [] 0 0 h)  (v1 v2 v3 v4 : Int) (h : Hh) (hf : w_X5_faultOf_114 K B X120 a0 v1 v2 v3 v4 h) : PW G M_X5_faultOf rm_X5_faultOf 0 0 [] n0 K 114 [(0, vr 5 a0 0), (1, vr 8 v1 0), (2, vi v2), (3, vi v3), (4, vi v4)] [] [] 0 0 h := by
  unfold w_X5_faultOf_114 at hf
  refine p_iinc (ls' := [(4, vi (w32 (v4 + 1))), (0, vr 5 a0 0), (1, vr 8 v1 0), (2, vi v2), (3, vi v3)]) dX5_faultOf_114 4 rfl (by decide) rfl ?_
  replace hf := vb_e hf
  generalize w32 (v4 + 1) = z5 at hf ⊢
  refine p_goto (tgt := 11) dX5_faultOf_117 (by decide) ?_
  refine p_sub (ls' := [(0, vr 5 a0 0), (1, vr 8 v1 0), (2, vi v2), (3, vi v3), (4, vi z5)]) [1, 2, 3, 4, 0] rfl ?_
  exact hB _ _ _ _ _ hf
def w_X5_faultOf_95 (K : Int → Hh → Prop) (B : Int → Int → Int → Int → Hh → Prop) (X120 : Int → Hh → Prop) (a0 : Int) (v1 v2 v3 v4 v5 : Int) (h : Hh) : Prop := if v5 = 32 then (w_X5_faultOf_114 K B X120 a0 v1 v2 v3 v4 h) else (w_X5_takes a0 v5 h (fun r6 h7 => if r6 ≠ 0 then (w_X5_faultOf_114 K B X120 a0 v1 v2 v3 v4 h7) else (K v4 h7)))
set_option maxRecDepth 100000 in
set_option maxHeartbeats 4000000 in
theorem t_X5_faultOf_95 {G : Gx} {n0 : Int} {K : Int → Hh → Prop} {B : Int → Int → Int → Int → Hh → Prop} {X120 : Int → Hh → Prop} {a0 : Int} (h0 : 0 ≤ a0) (hB : ∀ (v1 v2 v3 v4 : Int) (h : Hh), B v1 v2 v3 v4 h → PW G M_X5_faultOf rm_X5_faultOf 0 0 [] n0 K 11 [(0, vr 5 a0 0), (1, vr 8 v1 0), (2, vi v2), (3, vi v3), (4, vi v4)] [] [] 0 0 h) (hX120 : ∀ (v1 : Int) (h : Hh), X120 v1 h → PW G M_X5_faultOf rm_X5_faultOf 0 0 [] n0 K 120 [(0, vr 5 a0 0), (1, vr 8 v1 0)] [] [] 0 0 h)  (v1 v2 v3 v4 v5 : Int) (h : Hh) (hf : w_X5_faultOf_95 K B X120 a0 v1 v2 v3 v4 v5 h) : PW G M_X5_faultOf rm_X5_faultOf 0 0 [] n0 K 95 [(0, vr 5 a0 0), (1, vr 8 v1 0), (2, vi v2), (3, vi v3), (4, vi v4), (5, vi v5)] [] [] 0 0 h := by
  unfold w_X5_faultOf_95 at hf
  refine p_iload dX5_faultOf_95 5 rfl ?_
  refine p_bipush dX5_faultOf_97 (by decide) (by decide) ?_
  refine p_icmp_eq (tgt := 114) (q := v5 = 32) dX5_faultOf_99 (by decide) Iff.rfl (fun hc => ?_) (fun hc => ?_)
  · replace hf := Eq.mp (if_pos hc) hf
    refine p_sub (ls' := [(0, vr 5 a0 0), (1, vr 8 v1 0), (2, vi v2), (3, vi v3), (4, vi v4)]) [0, 1, 2, 3, 4] rfl ?_
    exact t_X5_faultOf_114 h0 hB hX120 _ _ _ _ _ hf
  · replace hf := Eq.mp (if_neg hc) hf
    refine p_aload_n dX5_faultOf_102 rfl 0 rfl ?_
    refine p_iload dX5_faultOf_103 5 rfl ?_
    refine p_callVi dX5_faultOf_105 M_X5_takes (Or.inr rfl) [vi v5] (t_X5_takes _ _ _ _ h0 hf) ok_X5_takes rfl (c := 5) (by decide) h0 rfl tb_311 ⟨tb_313, ts_5⟩ rfl (Nat.le_of_ble_eq_true rfl) ⟨rfl, rfl⟩ ⟨by decide, by decide⟩ ⟨by decide, by decide⟩ (fun r6 h7 hf => ?_)
    refine p_if_ne (tgt := 114) (q := r6 ≠ 0) dX5_faultOf_108 (by decide) Iff.rfl (fun hc => ?_) (fun hc => ?_)
    · replace hf := Eq.mp (if_pos hc) hf
      refine p_sub (ls' := [(0, vr 5 a0 0), (1, vr 8 v1 0), (2, vi v2), (3, vi v3), (4, vi v4)]) [0, 1, 2, 3, 4] rfl ?_
      exact t_X5_faultOf_114 h0 hB hX120 _ _ _ _ _ hf
    · replace hf := Eq.mp (if_neg hc) hf
      refine p_iload dX5_faultOf_111 4 rfl ?_
      exact p_iret dX5_faultOf_113 rfl (by decide) (by decide) (fun _ h => absurd h List.not_mem_nil) hf
def w_X5_faultOf_83 (K : Int → Hh → Prop) (B : Int → Int → Int → Int → Hh → Prop) (X120 : Int → Hh → Prop) (a0 : Int) (v1 v2 v3 v4 v5 : Int) (h : Hh) : Prop := if v2 = (-1) then (w_X5_faultOf_95 K B X120 a0 v1 v2 v3 v4 v5 h) else (w_X5_takeNumber a0 v3 h (fun _ h8 => w_X5_faultOf_95 K B X120 a0 v1 (-1) v3 v4 v5 h8))
set_option maxRecDepth 100000 in
set_option maxHeartbeats 4000000 in
theorem t_X5_faultOf_83 {G : Gx} {n0 : Int} {K : Int → Hh → Prop} {B : Int → Int → Int → Int → Hh → Prop} {X120 : Int → Hh → Prop} {a0 : Int} (h0 : 0 ≤ a0) (hB : ∀ (v1 v2 v3 v4 : Int) (h : Hh), B v1 v2 v3 v4 h → PW G M_X5_faultOf rm_X5_faultOf 0 0 [] n0 K 11 [(0, vr 5 a0 0), (1, vr 8 v1 0), (2, vi v2), (3, vi v3), (4, vi v4)] [] [] 0 0 h) (hX120 : ∀ (v1 : Int) (h : Hh), X120 v1 h → PW G M_X5_faultOf rm_X5_faultOf 0 0 [] n0 K 120 [(0, vr 5 a0 0), (1, vr 8 v1 0)] [] [] 0 0 h)  (v1 v2 v3 v4 v5 : Int) (h : Hh) (hf : w_X5_faultOf_83 K B X120 a0 v1 v2 v3 v4 v5 h) : PW G M_X5_faultOf rm_X5_faultOf 0 0 [] n0 K 83 [(0, vr 5 a0 0), (1, vr 8 v1 0), (2, vi v2), (3, vi v3), (4, vi v4), (5, vi v5)] [] [] 0 0 h := by
  unfold w_X5_faultOf_83 at hf
  refine p_iload_n dX5_faultOf_83 rfl 2 rfl ?_
  refine p_iconst dX5_faultOf_84 (by decide) ?_
  refine p_icmp_eq (tgt := 95) (q := v2 = (-1)) dX5_faultOf_85 (by decide) Iff.rfl (fun hc => ?_) (fun hc => ?_)
  · replace hf := Eq.mp (if_pos hc) hf
    exact t_X5_faultOf_95 h0 hB hX120 _ _ _ _ _ _ hf
  · replace hf := Eq.mp (if_neg hc) hf
    refine p_aload_n dX5_faultOf_88 rfl 0 rfl ?_
    refine p_iload_n dX5_faultOf_89 rfl 3 rfl ?_
    refine p_callVv dX5_faultOf_90 M_X5_takeNumber rfl [vi v3] (t_X5_takeNumber _ _ _ _ h0 hf) ok_X5_takeNumber rfl (c := 5) (by decide) h0 rfl tb_307 ⟨tb_309, ts_4⟩ rfl (Nat.le_of_ble_eq_true rfl) ⟨rfl, rfl⟩ ⟨by decide, by decide⟩ ⟨by decide, by decide⟩ (fun _ h8 hf => ?_)
    refine p_iconst dX5_faultOf_93 (by decide) ?_
    refine p_istore_n (ls' := [(2, vi (-1)), (0, vr 5 a0 0), (1, vr 8 v1 0), (3, vi v3), (4, vi v4), (5, vi v5)]) dX5_faultOf_94 rfl (by decide) rfl ?_
    refine p_sub (ls' := [(0, vr 5 a0 0), (1, vr 8 v1 0), (2, vi (-1)), (3, vi v3), (4, vi v4), (5, vi v5)]) [1, 2, 0, 3, 4, 5] rfl ?_
    exact t_X5_faultOf_95 h0 hB hX120 _ _ _ _ _ _ hf
def w_X5_faultOf_63 (K : Int → Hh → Prop) (B : Int → Int → Int → Int → Hh → Prop) (X120 : Int → Hh → Prop) (a0 : Int) (v1 v2 v3 v4 v5 : Int) (h : Hh) : Prop := vb (w32 ((w32 (v3 * 10)) + (w32 (v5 - 48)))) fun z9 => if z9 ≤ 9999 then (w_X5_faultOf_114 K B X120 a0 v1 v2 z9 v4 h) else (K v2 h)
set_option maxRecDepth 100000 in
set_option maxHeartbeats 4000000 in
theorem t_X5_faultOf_63 {G : Gx} {n0 : Int} {K : Int → Hh → Prop} {B : Int → Int → Int → Int → Hh → Prop} {X120 : Int → Hh → Prop} {a0 : Int} (h0 : 0 ≤ a0) (hB : ∀ (v1 v2 v3 v4 : Int) (h : Hh), B v1 v2 v3 v4 h → PW G M_X5_faultOf rm_X5_faultOf 0 0 [] n0 K 11 [(0, vr 5 a0 0), (1, vr 8 v1 0), (2, vi v2), (3, vi v3), (4, vi v4)] [] [] 0 0 h) (hX120 : ∀ (v1 : Int) (h : Hh), X120 v1 h → PW G M_X5_faultOf rm_X5_faultOf 0 0 [] n0 K 120 [(0, vr 5 a0 0), (1, vr 8 v1 0)] [] [] 0 0 h)  (v1 v2 v3 v4 v5 : Int) (h : Hh) (hf : w_X5_faultOf_63 K B X120 a0 v1 v2 v3 v4 v5 h) : PW G M_X5_faultOf rm_X5_faultOf 0 0 [] n0 K 63 [(0, vr 5 a0 0), (1, vr 8 v1 0), (2, vi v2), (3, vi v3), (4, vi v4), (5, vi v5)] [] [] 0 0 h := by
  unfold w_X5_faultOf_63 at hf
  refine p_iload_n dX5_faultOf_63 rfl 3 rfl ?_
  refine p_bipush dX5_faultOf_64 (by decide) (by decide) ?_
  refine p_imul dX5_faultOf_66 ?_
  refine p_iload dX5_faultOf_67 5 rfl ?_
  refine p_bipush dX5_faultOf_69 (by decide) (by decide) ?_
  refine p_isub dX5_faultOf_71 ?_
  refine p_iadd dX5_faultOf_72 ?_
  refine p_istore_n (ls' := [(3, vi (w32 ((w32 (v3 * 10)) + (w32 (v5 - 48))))), (0, vr 5 a0 0), (1, vr 8 v1 0), (2, vi v2), (4, vi v4), (5, vi v5)]) dX5_faultOf_73 rfl (by decide) rfl ?_
  replace hf := vb_e hf
  generalize (w32 ((w32 (v3 * 10)) + (w32 (v5 - 48)))) = z9 at hf ⊢
  refine p_iload_n dX5_faultOf_74 rfl 0 rfl ?_
  refine p_sipush dX5_faultOf_75 (by decide) (by decide) ?_
  refine p_icmp_le (tgt := 114) (q := z9 ≤ 9999) dX5_faultOf_78 (by decide) Iff.rfl (fun hc => ?_) (fun hc => ?_)
  · replace hf := Eq.mp (if_pos hc) hf
    refine p_sub (ls' := [(0, vr 5 a0 0), (1, vr 8 v1 0), (2, vi v2), (3, vi z9), (4, vi v4)]) [1, 2, 3, 0, 4] rfl ?_
    exact t_X5_faultOf_114 h0 hB hX120 _ _ _ _ _ hf
  · replace hf := Eq.mp (if_neg hc) hf
    refine p_iload_n dX5_faultOf_81 rfl 3 rfl ?_
    exact p_iret dX5_faultOf_82 rfl (by decide) (by decide) (fun _ h => absurd h List.not_mem_nil) hf
def w_X5_faultOf_11 (K : Int → Hh → Prop) (X120 : Int → Hh → Prop) (a0 : Int) : Nat → Int → Int → Int → Int → Hh → Prop
  | 0, _, _, _, _, _ => False
  | n + 1, v1, v2, v3, v4, h => 0 ≤ v1 ∧ (if v4 ≥ h v1 1 then (X120 v1 h) else (w_X8_byteAt v1 v4 h (fun r3 h4 => if r3 < 48 then (w_X5_faultOf_83 K (w_X5_faultOf_11 K X120 a0 n) X120 a0 v1 v2 v3 v4 r3 h4) else (if r3 > 57 then (w_X5_faultOf_83 K (w_X5_faultOf_11 K X120 a0 n) X120 a0 v1 v2 v3 v4 r3 h4) else (if v2 ≠ (-1) then (w_X5_faultOf_63 K (w_X5_faultOf_11 K X120 a0 n) X120 a0 v1 v2 v3 v4 r3 h4) else (if h4 a0 4 = 3 then (w_X5_faultOf_63 K (w_X5_faultOf_11 K X120 a0 n) X120 a0 v1 v4 0 v4 r3 h4) else (K v4 h4)))))))
set_option maxRecDepth 100000 in
set_option maxHeartbeats 4000000 in
theorem t_X5_faultOf_11 {G : Gx} {n0 : Int} {K : Int → Hh → Prop} {X120 : Int → Hh → Prop} {a0 : Int} (h0 : 0 ≤ a0) (hX120 : ∀ (v1 : Int) (h : Hh), X120 v1 h → PW G M_X5_faultOf rm_X5_faultOf 0 0 [] n0 K 120 [(0, vr 5 a0 0), (1, vr 8 v1 0)] [] [] 0 0 h) : ∀ (n : Nat) (v1 v2 v3 v4 : Int) (h : Hh), w_X5_faultOf_11 K X120 a0 n v1 v2 v3 v4 h → PW G M_X5_faultOf rm_X5_faultOf 0 0 [] n0 K 11 [(0, vr 5 a0 0), (1, vr 8 v1 0), (2, vi v2), (3, vi v3), (4, vi v4)] [] [] 0 0 h := by
  intro n
  induction n with
  | zero =>
    intro v1 v2 v3 v4 h hf
    rw [w_X5_faultOf_11] at hf
    exact hf.elim
  | succ n ih =>
    intro v1 v2 v3 v4 h hf
    rw [w_X5_faultOf_11] at hf
    refine p_iload dX5_faultOf_11 4 rfl ?_
    refine p_aload_n dX5_faultOf_13 rfl 1 rfl ?_
    obtain ⟨c2, hf⟩ := hf
    refine p_getN (c := 8) (vi (h v1 1)) dX5_faultOf_14 1 tb_33 (by decide) (by decide) (Or.inl rfl) c2 rfl rfl ?_
    refine p_icmp_ge (tgt := 120) (q := v4 ≥ h v1 1) dX5_faultOf_17 (by decide) Iff.rfl (fun hc => ?_) (fun hc => ?_)
    · replace hf := Eq.mp (if_pos hc) hf
      refine p_sub (ls' := [(0, vr 5 a0 0), (1, vr 8 v1 0)]) [0, 1] rfl ?_
      exact hX120 _ _ hf
    · replace hf := Eq.mp (if_neg hc) hf
      refine p_aload_n dX5_faultOf_20 rfl 1 rfl ?_
      refine p_iload dX5_faultOf_21 4 rfl ?_
      refine p_callVNi dX5_faultOf_23 M_X8_byteAt (Or.inl rfl) [vi v4] (t_X8_byteAt _ _ _ _ c2 hf) ok_X8_byteAt rfl (c := 8) (by decide) c2 rfl tb_303 ⟨tb_305, ts_3⟩ rfl (Nat.le_of_ble_eq_true rfl) ⟨rfl, rfl⟩ ⟨by decide, by decide⟩ ⟨by decide, by decide⟩ (fun r3 h4 hf => ?_)
      refine p_istore (ls' := [(5, vi r3), (0, vr 5 a0 0), (1, vr 8 v1 0), (2, vi v2), (3, vi v3), (4, vi v4)]) dX5_faultOf_26 (by decide) rfl ?_
      refine p_iload dX5_faultOf_28 0 rfl ?_
      refine p_bipush dX5_faultOf_30 (by decide) (by decide) ?_
      refine p_icmp_lt (tgt := 83) (q := r3 < 48) dX5_faultOf_32 (by decide) Iff.rfl (fun hc => ?_) (fun hc => ?_)
      · replace hf := Eq.mp (if_pos hc) hf
        refine p_sub (ls' := [(0, vr 5 a0 0), (1, vr 8 v1 0), (2, vi v2), (3, vi v3), (4, vi v4), (5, vi r3)]) [1, 2, 3, 4, 5, 0] rfl ?_
        exact t_X5_faultOf_83 h0 ih hX120 _ _ _ _ _ _ hf
      · replace hf := Eq.mp (if_neg hc) hf
        refine p_iload dX5_faultOf_35 0 rfl ?_
        refine p_bipush dX5_faultOf_37 (by decide) (by decide) ?_
        refine p_icmp_gt (tgt := 83) (q := r3 > 57) dX5_faultOf_39 (by decide) Iff.rfl (fun hc => ?_) (fun hc => ?_)
        · replace hf := Eq.mp (if_pos hc) hf
          refine p_sub (ls' := [(0, vr 5 a0 0), (1, vr 8 v1 0), (2, vi v2), (3, vi v3), (4, vi v4), (5, vi r3)]) [1, 2, 3, 4, 5, 0] rfl ?_
          exact t_X5_faultOf_83 h0 ih hX120 _ _ _ _ _ _ hf
        · replace hf := Eq.mp (if_neg hc) hf
          refine p_iload_n dX5_faultOf_42 rfl 3 rfl ?_
          refine p_iconst dX5_faultOf_43 (by decide) ?_
          refine p_icmp_ne (tgt := 63) (q := v2 ≠ (-1)) dX5_faultOf_44 (by decide) Iff.rfl (fun hc => ?_) (fun hc => ?_)
          · replace hf := Eq.mp (if_pos hc) hf
            refine p_sub (ls' := [(0, vr 5 a0 0), (1, vr 8 v1 0), (2, vi v2), (3, vi v3), (4, vi v4), (5, vi r3)]) [1, 2, 3, 4, 5, 0] rfl ?_
            exact t_X5_faultOf_63 h0 ih hX120 _ _ _ _ _ _ hf
          · replace hf := Eq.mp (if_neg hc) hf
            refine p_aload_n dX5_faultOf_47 rfl 1 rfl ?_
            refine p_get (c := 5) (vi (h4 a0 4)) dX5_faultOf_48 4 tb_54 (by decide) (by decide) (Or.inl rfl) h0 rfl rfl ?_
            refine p_iconst dX5_faultOf_51 (by decide) ?_
            refine p_icmp_eq (tgt := 58) (q := h4 a0 4 = 3) dX5_faultOf_52 (by decide) Iff.rfl (fun hc => ?_) (fun hc => ?_)
            · replace hf := Eq.mp (if_pos hc) hf
              refine p_iload dX5_faultOf_58 5 rfl ?_
              refine p_istore_n (ls' := [(2, vi v4), (5, vi r3), (0, vr 5 a0 0), (1, vr 8 v1 0), (3, vi v3), (4, vi v4)]) dX5_faultOf_60 rfl (by decide) rfl ?_
              refine p_iconst dX5_faultOf_61 (by decide) ?_
              refine p_istore_n (ls' := [(3, vi 0), (2, vi v4), (5, vi r3), (0, vr 5 a0 0), (1, vr 8 v1 0), (4, vi v4)]) dX5_faultOf_62 rfl (by decide) rfl ?_
              refine p_sub (ls' := [(0, vr 5 a0 0), (1, vr 8 v1 0), (2, vi v4), (3, vi 0), (4, vi v4), (5, vi r3)]) [3, 4, 1, 0, 5, 2] rfl ?_
              exact t_X5_faultOf_63 h0 ih hX120 _ _ _ _ _ _ hf
            · replace hf := Eq.mp (if_neg hc) hf
              refine p_iload dX5_faultOf_55 5 rfl ?_
              exact p_iret dX5_faultOf_57 rfl (by decide) (by decide) (fun _ h => absurd h List.not_mem_nil) hf
def w_X5_faultOf_137 (K : Int → Hh → Prop) (a0 : Int) (s0 : Int) (h : Hh) : Prop := K s0 h
set_option maxRecDepth 100000 in
set_option maxHeartbeats 4000000 in
theorem t_X5_faultOf_137 {G : Gx} {n0 : Int} {K : Int → Hh → Prop} {a0 : Int} (h0 : 0 ≤ a0)  (s0 : Int) (h : Hh) (hf : w_X5_faultOf_137 K  a0 s0 h) : PW G M_X5_faultOf rm_X5_faultOf 0 0 [] n0 K 137 [] [vi s0] [] 0 0 h := by
  unfold w_X5_faultOf_137 at hf
  exact p_iret dX5_faultOf_137 rfl (by decide) (by decide) (fun _ h => absurd h List.not_mem_nil) hf
def w_X5_faultOf (a0 x1 : Int) (h : Hh) (K : Int → Hh → Prop) : Prop := w_X5_startOver a0 h (fun _ h1 => w_X5_faultOf_11 K (fun u11 h10 => if h10 a0 4 ≠ 8 then (0 ≤ u11 ∧ (w_X5_faultOf_137 K  a0 (h10 u11 1) h10)) else (w_X5_faultOf_137 K  a0 (-1) h10)) a0 NF x1 (-1) 0 0 h1)
set_option maxRecDepth 100000 in
set_option maxHeartbeats 4000000 in
theorem t_X5_faultOf {G : Gx} (a0 x1 : Int) (h : Hh) (K : Int → Hh → Prop) (h0 : 0 ≤ a0) (hf : w_X5_faultOf a0 x1 h K) : CT G M_X5_faultOf rm_X5_faultOf 0 0 [] [vr 5 a0 0, vr 8 x1 0] h K := by
  unfold w_X5_faultOf at hf
  refine CT.of (ls0 := [(0, vr 5 a0 0), (1, vr 8 x1 0)]) (plainFor_of_name (by decide +kernel)) (by decide +kernel) (Nat.le_of_ble_eq_true rfl) rfl rfl ?_
  refine p_aload_n dX5_faultOf_0 rfl 0 rfl ?_
  refine p_callVv dX5_faultOf_1 M_X5_startOver rfl [] (t_X5_startOver _ _ _ h0 hf) ok_X5_startOver rfl (c := 5) (by decide) h0 rfl tb_299 ⟨tb_301, ts_2⟩ rfl (Nat.le_of_ble_eq_true rfl) ⟨rfl, rfl⟩ ⟨by decide, by decide⟩ ⟨by decide, by decide⟩ (fun _ h1 hf => ?_)
  refine p_iconst dX5_faultOf_4 (by decide) ?_
  refine p_istore_n (ls' := [(2, vi (-1)), (0, vr 5 a0 0), (1, vr 8 x1 0)]) dX5_faultOf_5 rfl (by decide) rfl ?_
  refine p_iconst dX5_faultOf_6 (by decide) ?_
  refine p_istore_n (ls' := [(3, vi 0), (2, vi (-1)), (0, vr 5 a0 0), (1, vr 8 x1 0)]) dX5_faultOf_7 rfl (by decide) rfl ?_
  refine p_iconst dX5_faultOf_8 (by decide) ?_
  refine p_istore (ls' := [(4, vi 0), (3, vi 0), (2, vi (-1)), (0, vr 5 a0 0), (1, vr 8 x1 0)]) dX5_faultOf_9 (by decide) rfl ?_
  refine p_sub (ls' := [(0, vr 5 a0 0), (1, vr 8 x1 0), (2, vi (-1)), (3, vi 0), (4, vi 0)]) [3, 4, 2, 1, 0] rfl ?_
  refine t_X5_faultOf_11 h0 ?_ NF _ _ _ _ _ hf
  · intro u11 h10 hf
    refine p_aload_n dX5_faultOf_120 rfl 0 rfl ?_
    refine p_get (c := 5) (vi (h10 a0 4)) dX5_faultOf_121 4 tb_54 (by decide) (by decide) (Or.inl rfl) h0 rfl rfl ?_
    refine p_bipush dX5_faultOf_124 (by decide) (by decide) ?_
    refine p_icmp_ne (tgt := 133) (q := h10 a0 4 ≠ 8) dX5_faultOf_126 (by decide) Iff.rfl (fun hc => ?_) (fun hc => ?_)
    · replace hf := Eq.mp (if_pos hc) hf
      refine p_aload_n dX5_faultOf_133 rfl 1 rfl ?_
      obtain ⟨c12, hf⟩ := hf
      refine p_getN (c := 8) (vi (h10 u11 1)) dX5_faultOf_134 1 tb_33 (by decide) (by decide) (Or.inl rfl) c12 rfl rfl ?_
      refine p_sub (ls' := []) [] rfl ?_
      exact t_X5_faultOf_137 h0  _ _ hf
    · replace hf := Eq.mp (if_neg hc) hf
      refine p_iconst dX5_faultOf_129 (by decide) ?_
      refine p_goto (tgt := 137) dX5_faultOf_130 (by decide) ?_
      refine p_sub (ls' := []) [] rfl ?_
      exact t_X5_faultOf_137 h0  _ _ hf
theorem ok_X5_faultOf : mOK M_X5_faultOf 1 := ⟨tb_298, tb_3, by decide +kernel⟩
abbrev M_X6_init : MD := (yX6_init, cX6_init, 1, none)
abbrev rm_X6_init : Room := { frames := 1, cells := 7, slots := 379, locals := 20 }
def w_X6_init (a0 : Int) (h : Hh) (K : Int → Hh → Prop) : Prop := (h (-1) 0 = a0 + 1) ∧ (hb (nw h (fun _ => 0)) fun h2 => hb (up h2 a0 0 (a0 + 1)) fun h3 => (h3 (-1) 0 = a0 + 2) ∧ (hb (nw h3 (fun _ => 0)) fun h5 => hb (up h5 a0 1 (a0 + 2)) fun h6 => (h6 (-1) 0 = a0 + 3) ∧ (hb (nw h6 (fun _ => 0)) fun h8 => hb (up h8 a0 2 (a0 + 3)) fun h9 => (h9 (-1) 0 = a0 + 4) ∧ (hb (nw h9 (fun _ => 0)) fun h11 => hb (up h11 a0 3 (a0 + 4)) fun h12 => (h12 (-1) 0 = a0 + 5) ∧ (hb (nw h12 (fun _ => 0)) fun h14 => hb (up h14 a0 4 (a0 + 5)) fun h15 => (h15 (-1) 0 = a0 + 6) ∧ (hb (nw h15 (fun _ => 0)) fun h17 => hb (up h17 a0 5 (a0 + 6)) fun h18 => (h18 (-1) 0 = a0 + 7) ∧ (hb (nw h18 (fun _ => 0)) fun h20 => hb (up h20 a0 6 (a0 + 7)) fun h21 => K 0 h21)))))))
set_option maxRecDepth 100000 in
set_option maxHeartbeats 4000000 in
theorem t_X6_init {G : Gx} (a0 : Int) (h : Hh) (K : Int → Hh → Prop) (h0 : 0 ≤ a0) (hf : w_X6_init a0 h K) : CT G M_X6_init rm_X6_init 7 379 [vr 100 (a0 + 1) 60, vr 100 (a0 + 2) 60, vr 100 (a0 + 3) 60, vr 100 (a0 + 4) 60, vr 100 (a0 + 5) 60, vr 100 (a0 + 6) 60, vr 100 (a0 + 7) 19] [vr 56 a0 0] h K := by
  unfold w_X6_init at hf
  refine CT.of (ls0 := [(0, vr 56 a0 0)]) (plainFor_of_name (by decide +kernel)) (by decide +kernel) (Nat.le_of_ble_eq_true rfl) rfl rfl ?_
  refine p_aload_n dX6_init_0 rfl 0 rfl ?_
  refine p_oinit dX6_init_1 tb_111 tb_22 tb_23 (by decide) h0 (Nat.le_of_ble_eq_true rfl) ⟨by decide, by decide⟩ ?_
  refine p_aload_n dX6_init_4 rfl 0 rfl ?_
  refine p_bipush dX6_init_5 (by decide) (by decide) ?_
  obtain ⟨c1, hf⟩ := hf
  refine p_newa (t := 100) (ti := 0) (ty := .int) (z := a0 + 1) dX6_init_7 rfl (Or.inl ⟨rfl, rfl⟩) rfl tb_75 (by decide) c1 ⟨by decide, by decide⟩ ?_
  replace hf := hb_e hf
  generalize nw h (fun _ => 0) = h2 at hf ⊢
  refine p_norm (kn' := [vr 100 (a0 + 1) 60]) (cells' := 1) (slots' := 60) rfl rfl rfl ?_
  refine p_putaF (c := 6) dX6_init_9 0 tb_112 (by decide) (by decide) (Or.inr rfl) h0 rfl rfl rfl rfl rfl (by decide) (fun q => absurd q (by decide)) (up h2 a0 0 (a0 + 1)) rfl ?_
  replace hf := hb_e hf
  generalize up h2 a0 0 (a0 + 1) = h3 at hf ⊢
  refine p_aload_n dX6_init_12 rfl 0 rfl ?_
  refine p_bipush dX6_init_13 (by decide) (by decide) ?_
  obtain ⟨c4, hf⟩ := hf
  refine p_newa (t := 100) (ti := 0) (ty := .int) (z := a0 + 2) dX6_init_15 rfl (Or.inl ⟨rfl, rfl⟩) rfl tb_75 (by decide) c4 ⟨by decide, by decide⟩ ?_
  replace hf := hb_e hf
  generalize nw h3 (fun _ => 0) = h5 at hf ⊢
  refine p_norm (kn' := [vr 100 (a0 + 2) 60, vr 100 (a0 + 1) 60]) (cells' := 2) (slots' := 120) rfl rfl rfl ?_
  refine p_putaF (c := 6) dX6_init_17 1 tb_113 (by decide) (by decide) (Or.inr rfl) h0 rfl rfl rfl rfl rfl (by decide) (fun q => absurd q (by decide)) (up h5 a0 1 (a0 + 2)) rfl ?_
  replace hf := hb_e hf
  generalize up h5 a0 1 (a0 + 2) = h6 at hf ⊢
  refine p_aload_n dX6_init_20 rfl 0 rfl ?_
  refine p_bipush dX6_init_21 (by decide) (by decide) ?_
  obtain ⟨c7, hf⟩ := hf
  refine p_newa (t := 100) (ti := 0) (ty := .int) (z := a0 + 3) dX6_init_23 rfl (Or.inl ⟨rfl, rfl⟩) rfl tb_75 (by decide) c7 ⟨by decide, by decide⟩ ?_
  replace hf := hb_e hf
  generalize nw h6 (fun _ => 0) = h8 at hf ⊢
  refine p_norm (kn' := [vr 100 (a0 + 3) 60, vr 100 (a0 + 2) 60, vr 100 (a0 + 1) 60]) (cells' := 3) (slots' := 180) rfl rfl rfl ?_
  refine p_putaF (c := 6) dX6_init_25 2 tb_115 (by decide) (by decide) (Or.inr rfl) h0 rfl rfl rfl rfl rfl (by decide) (fun q => absurd q (by decide)) (up h8 a0 2 (a0 + 3)) rfl ?_
  replace hf := hb_e hf
  generalize up h8 a0 2 (a0 + 3) = h9 at hf ⊢
  refine p_aload_n dX6_init_28 rfl 0 rfl ?_
  refine p_bipush dX6_init_29 (by decide) (by decide) ?_
  obtain ⟨c10, hf⟩ := hf
  refine p_newa (t := 100) (ti := 0) (ty := .int) (z := a0 + 4) dX6_init_31 rfl (Or.inl ⟨rfl, rfl⟩) rfl tb_75 (by decide) c10 ⟨by decide, by decide⟩ ?_
  replace hf := hb_e hf
  generalize nw h9 (fun _ => 0) = h11 at hf ⊢
  refine p_norm (kn' := [vr 100 (a0 + 4) 60, vr 100 (a0 + 3) 60, vr 100 (a0 + 2) 60, vr 100 (a0 + 1) 60]) (cells' := 4) (slots' := 240) rfl rfl rfl ?_
  refine p_putaF (c := 6) dX6_init_33 3 tb_117 (by decide) (by decide) (Or.inr rfl) h0 rfl rfl rfl rfl rfl (by decide) (fun q => absurd q (by decide)) (up h11 a0 3 (a0 + 4)) rfl ?_
  replace hf := hb_e hf
  generalize up h11 a0 3 (a0 + 4) = h12 at hf ⊢
  refine p_aload_n dX6_init_36 rfl 0 rfl ?_
  refine p_bipush dX6_init_37 (by decide) (by decide) ?_
  obtain ⟨c13, hf⟩ := hf
  refine p_newa (t := 100) (ti := 0) (ty := .int) (z := a0 + 5) dX6_init_39 rfl (Or.inl ⟨rfl, rfl⟩) rfl tb_75 (by decide) c13 ⟨by decide, by decide⟩ ?_
  replace hf := hb_e hf
  generalize nw h12 (fun _ => 0) = h14 at hf ⊢
  refine p_norm (kn' := [vr 100 (a0 + 5) 60, vr 100 (a0 + 4) 60, vr 100 (a0 + 3) 60, vr 100 (a0 + 2) 60, vr 100 (a0 + 1) 60]) (cells' := 5) (slots' := 300) rfl rfl rfl ?_
  refine p_putaF (c := 6) dX6_init_41 4 tb_118 (by decide) (by decide) (Or.inr rfl) h0 rfl rfl rfl rfl rfl (by decide) (fun q => absurd q (by decide)) (up h14 a0 4 (a0 + 5)) rfl ?_
  replace hf := hb_e hf
  generalize up h14 a0 4 (a0 + 5) = h15 at hf ⊢
  refine p_aload_n dX6_init_44 rfl 0 rfl ?_
  refine p_bipush dX6_init_45 (by decide) (by decide) ?_
  obtain ⟨c16, hf⟩ := hf
  refine p_newa (t := 100) (ti := 0) (ty := .int) (z := a0 + 6) dX6_init_47 rfl (Or.inl ⟨rfl, rfl⟩) rfl tb_75 (by decide) c16 ⟨by decide, by decide⟩ ?_
  replace hf := hb_e hf
  generalize nw h15 (fun _ => 0) = h17 at hf ⊢
  refine p_norm (kn' := [vr 100 (a0 + 6) 60, vr 100 (a0 + 5) 60, vr 100 (a0 + 4) 60, vr 100 (a0 + 3) 60, vr 100 (a0 + 2) 60, vr 100 (a0 + 1) 60]) (cells' := 6) (slots' := 360) rfl rfl rfl ?_
  refine p_putaF (c := 6) dX6_init_49 5 tb_120 (by decide) (by decide) (Or.inr rfl) h0 rfl rfl rfl rfl rfl (by decide) (fun q => absurd q (by decide)) (up h17 a0 5 (a0 + 6)) rfl ?_
  replace hf := hb_e hf
  generalize up h17 a0 5 (a0 + 6) = h18 at hf ⊢
  refine p_aload_n dX6_init_52 rfl 0 rfl ?_
  refine p_bipush dX6_init_53 (by decide) (by decide) ?_
  obtain ⟨c19, hf⟩ := hf
  refine p_newa (t := 100) (ti := 0) (ty := .int) (z := a0 + 7) dX6_init_55 rfl (Or.inl ⟨rfl, rfl⟩) rfl tb_75 (by decide) c19 ⟨by decide, by decide⟩ ?_
  replace hf := hb_e hf
  generalize nw h18 (fun _ => 0) = h20 at hf ⊢
  refine p_norm (kn' := [vr 100 (a0 + 7) 19, vr 100 (a0 + 6) 60, vr 100 (a0 + 5) 60, vr 100 (a0 + 4) 60, vr 100 (a0 + 3) 60, vr 100 (a0 + 2) 60, vr 100 (a0 + 1) 60]) (cells' := 7) (slots' := 379) rfl rfl rfl ?_
  refine p_putaF (c := 6) dX6_init_57 6 tb_122 (by decide) (by decide) (Or.inr rfl) h0 rfl rfl rfl rfl rfl (by decide) (fun q => absurd q (by decide)) (up h20 a0 6 (a0 + 7)) rfl ?_
  replace hf := hb_e hf
  generalize up h20 a0 6 (a0 + 7) = h21 at hf ⊢
  exact p_vret dX6_init_60 rfl (by decide) (by decide) (List.forall_mem_cons.mpr ⟨List.mem_of_getElem? (i := 6) rfl, List.forall_mem_cons.mpr ⟨List.mem_of_getElem? (i := 5) rfl, List.forall_mem_cons.mpr ⟨List.mem_of_getElem? (i := 4) rfl, List.forall_mem_cons.mpr ⟨List.mem_of_getElem? (i := 3) rfl, List.forall_mem_cons.mpr ⟨List.mem_of_getElem? (i := 2) rfl, List.forall_mem_cons.mpr ⟨List.mem_of_getElem? (i := 1) rfl, List.forall_mem_cons.mpr ⟨List.mem_of_getElem? (i := 0) rfl, fun _ h => absurd h List.not_mem_nil⟩⟩⟩⟩⟩⟩⟩) hf
theorem ok_X6_init : mOK M_X6_init 0 := ⟨tb_110, tb_5, by decide +kernel⟩
