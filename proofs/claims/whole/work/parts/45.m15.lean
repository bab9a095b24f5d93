abbrev M_X11_suspects : MD := (yX11_suspects, cX11_suspects, 6, some .int)
abbrev rm_X11_suspects : Room := { frames := 8, cells := 0, slots := 0, locals := 205 }
def w_X11_suspects_33 (K : Int → Hh → Prop) (a0 : Int) (h : Hh) : Prop := K (-1) h
set_option maxRecDepth 100000 in
set_option maxHeartbeats 4000000 in
theorem t_X11_suspects_33 {G : Gx} {n0 : Int} {K : Int → Hh → Prop} {a0 : Int} (h0 : 0 ≤ a0)  (h : Hh) (hf : w_X11_suspects_33 K  a0  h) : PW G M_X11_suspects rm_X11_suspects 0 0 [] n0 K 33 [] [] [] 0 0 h := by
  unfold w_X11_suspects_33 at hf
  refine p_iconst dX11_suspects_33 (by decide) ?_
  exact p_iret dX11_suspects_34 rfl (by decide) (by decide) (fun _ h => absurd h List.not_mem_nil) hf
def w_X11_suspects_107 (K : Int → Hh → Prop) (B : Int → Int → Hh → Prop) (X96 : Int → Hh → Prop) (X113 : Hh → Prop) (a0 : Int) (v4 v5 : Int) (h : Hh) : Prop := vb (w32 (v5 + 1)) fun z9 => B v4 z9 h
set_option maxRecDepth 100000 in
set_option maxHeartbeats 4000000 in
theorem t_X11_suspects_107 {G : Gx} {n0 : Int} {K : Int → Hh → Prop} {B : Int → Int → Hh → Prop} {X96 : Int → Hh → Prop} {X113 : Hh → Prop} {a0 : Int} (h0 : 0 ≤ a0) (hB : ∀ (v4 v5 : Int) (h : Hh), B v4 v5 h → PW G M_X11_suspects rm_X11_suspects 0 0 [] n0 K 67 [(0, vr 11 a0 0), (4, vi v4), (5, vi v5)] [] [] 0 0 h) (hX96 : ∀ (v5 : Int) (h : Hh), X96 v5 h → PW G M_X11_suspects rm_X11_suspects 0 0 [] n0 K 96 [(0, vr 11 a0 0), (5, vi v5)] [] [] 0 0 h) (hX113 : ∀ (h : Hh), X113  h → PW G M_X11_suspects rm_X11_suspects 0 0 [] n0 K 113 [] [] [] 0 0 h)  (v4 v5 : Int) (h : Hh) (hf : w_X11_suspects_107 K B X96 X113 a0 v4 v5 h) : PW G M_X11_suspects rm_X11_suspects 0 0 [] n0 K 107 [(0, vr 11 a0 0), (4, vi v4), (5, vi v5)] [] [] 0 0 h := by
  unfold w_X11_suspects_107 at hf
  refine p_iinc (ls' := [(5, vi (w32 (v5 + 1))), (0, vr 11 a0 0), (4, vi v4)]) dX11_suspects_107 2 rfl (by decide) rfl ?_
  replace hf := vb_e hf
  generalize w32 (v5 + 1) = z9 at hf ⊢
  refine p_goto (tgt := 67) dX11_suspects_110 (by decide) ?_
  refine p_sub (ls' := [(0, vr 11 a0 0), (4, vi v4), (5, vi z9)]) [1, 2, 0] rfl ?_
  exact hB _ _ _ hf
def w_X11_suspects_67 (K : Int → Hh → Prop) (X96 : Int → Hh → Prop) (X113 : Hh → Prop) (a0 : Int) : Nat → Int → Int → Hh → Prop
  | 0, _, _, _ => False
  | n + 1, v4, v5, h => if v5 ≥ h a0 56 then (X113  h) else (if (i32 ((i32 (h a0 57) >>> (i32 v5 &&& 31)).toInt) &&& i32 1).toInt ≠ 0 then (if v4 ≠ 0 then (vb (w32 (v4 + (-1))) fun z8 => w_X11_suspects_107 K (w_X11_suspects_67 K X96 X113 a0 n) X96 X113 a0 z8 v5 h) else (X96 v5 h)) else (w_X11_suspects_107 K (w_X11_suspects_67 K X96 X113 a0 n) X96 X113 a0 v4 v5 h))
set_option maxRecDepth 100000 in
set_option maxHeartbeats 4000000 in
theorem t_X11_suspects_67 {G : Gx} {n0 : Int} {K : Int → Hh → Prop} {X96 : Int → Hh → Prop} {X113 : Hh → Prop} {a0 : Int} (h0 : 0 ≤ a0) (hX96 : ∀ (v5 : Int) (h : Hh), X96 v5 h → PW G M_X11_suspects rm_X11_suspects 0 0 [] n0 K 96 [(0, vr 11 a0 0), (5, vi v5)] [] [] 0 0 h) (hX113 : ∀ (h : Hh), X113  h → PW G M_X11_suspects rm_X11_suspects 0 0 [] n0 K 113 [] [] [] 0 0 h) : ∀ (n : Nat) (v4 v5 : Int) (h : Hh), w_X11_suspects_67 K X96 X113 a0 n v4 v5 h → PW G M_X11_suspects rm_X11_suspects 0 0 [] n0 K 67 [(0, vr 11 a0 0), (4, vi v4), (5, vi v5)] [] [] 0 0 h := by
  intro n
  induction n with
  | zero =>
    intro v4 v5 h hf
    rw [w_X11_suspects_67] at hf
    exact hf.elim
  | succ n ih =>
    intro v4 v5 h hf
    rw [w_X11_suspects_67] at hf
    refine p_iload dX11_suspects_67 2 rfl ?_
    refine p_aload_n dX11_suspects_69 rfl 0 rfl ?_
    refine p_get (c := 11) (vi (h a0 56)) dX11_suspects_70 56 tb_949 (by decide) (by decide) (Or.inl rfl) h0 rfl rfl ?_
    refine p_icmp_ge (tgt := 113) (q := v5 ≥ h a0 56) dX11_suspects_73 (by decide) Iff.rfl (fun hc => ?_) (fun hc => ?_)
    · replace hf := Eq.mp (if_pos hc) hf
      refine p_sub (ls' := []) [] rfl ?_
      exact hX113  _ hf
    · replace hf := Eq.mp (if_neg hc) hf
      refine p_aload_n dX11_suspects_76 rfl 0 rfl ?_
      refine p_get (c := 11) (vi (h a0 57)) dX11_suspects_77 57 tb_950 (by decide) (by decide) (Or.inl rfl) h0 rfl rfl ?_
      refine p_iload dX11_suspects_80 2 rfl ?_
      refine p_ishr dX11_suspects_82 ?_
      refine p_iconst dX11_suspects_83 (by decide) ?_
      refine p_iand dX11_suspects_84 ?_
      refine p_if_ne (tgt := 91) (q := (i32 ((i32 (h a0 57) >>> (i32 v5 &&& 31)).toInt) &&& i32 1).toInt ≠ 0) dX11_suspects_85 (by decide) Iff.rfl (fun hc => ?_) (fun hc => ?_)
      · replace hf := Eq.mp (if_pos hc) hf
        refine p_iload dX11_suspects_91 1 rfl ?_
        refine p_if_ne (tgt := 104) (q := v4 ≠ 0) dX11_suspects_93 (by decide) Iff.rfl (fun hc => ?_) (fun hc => ?_)
        · replace hf := Eq.mp (if_pos hc) hf
          refine p_iinc (ls' := [(4, vi (w32 (v4 + (-1)))), (0, vr 11 a0 0), (5, vi v5)]) dX11_suspects_104 1 rfl (by decide) rfl ?_
          replace hf := vb_e hf
          generalize w32 (v4 + (-1)) = z8 at hf ⊢
          refine p_sub (ls' := [(0, vr 11 a0 0), (4, vi z8), (5, vi v5)]) [1, 0, 2] rfl ?_
          exact t_X11_suspects_107 h0 ih hX96 hX113 _ _ _ hf
        · replace hf := Eq.mp (if_neg hc) hf
          refine p_sub (ls' := [(0, vr 11 a0 0), (5, vi v5)]) [0, 2] rfl ?_
          exact hX96 _ _ hf
      · replace hf := Eq.mp (if_neg hc) hf
        refine p_goto (tgt := 107) dX11_suspects_88 (by decide) ?_
        exact t_X11_suspects_107 h0 ih hX96 hX113 _ _ _ hf
def w_X11_suspects_58 (K : Int → Hh → Prop) (a0 : Int) (s0 : Int) (h : Hh) : Prop := K s0 h
set_option maxRecDepth 100000 in
set_option maxHeartbeats 4000000 in
theorem t_X11_suspects_58 {G : Gx} {n0 : Int} {K : Int → Hh → Prop} {a0 : Int} (h0 : 0 ≤ a0)  (s0 : Int) (h : Hh) (hf : w_X11_suspects_58 K  a0 s0 h) : PW G M_X11_suspects rm_X11_suspects 0 0 [] n0 K 58 [] [vi s0] [] 0 0 h := by
  unfold w_X11_suspects_58 at hf
  exact p_iret dX11_suspects_58 rfl (by decide) (by decide) (fun _ h => absurd h List.not_mem_nil) hf
def w_X11_suspects (a0 x1 x2 x3 : Int) (h : Hh) (K : Int → Hh → Prop) : Prop := w_X11_isChart a0 x1 h (fun r1 h2 => if r1 = 0 then (w_X11_suspects_33 K  a0  h2) else (w_X11_in x2 0 20 h2 (fun r3 h4 => if r3 = 0 then (w_X11_suspects_33 K  a0  h4) else (if x3 < 0 then (w_X11_suspects_33 K  a0  h4) else (w_X11_finds a0 x1 x2 h4 (fun r5 h6 => if r5 ≠ 0 then (if x3 ≥ 2 then (vb (w32 (x3 - 2)) fun z7 => w_X11_suspects_67 K (fun u11 h10 => ((0 : Int) ≤ u11 ∧ (u11 : Int) < 12) ∧ (K (h10 (a0 + 38) u11) h10)) (fun h13 => K (-1) h13) a0 NF z7 0 h6) else (if x3 ≠ 0 then (w_X11_suspects_58 K  a0 (h6 a0 58) h6) else (w_X11_bits (h6 a0 57) h6 (fun r14 h15 => w_X11_suspects_58 K  a0 r14 h15)))) else (w_X11_suspects_33 K  a0  h6)))))))
set_option maxRecDepth 100000 in
set_option maxHeartbeats 4000000 in
theorem t_X11_suspects {G : Gx} (a0 x1 x2 x3 : Int) (h : Hh) (K : Int → Hh → Prop) (h0 : 0 ≤ a0) (hf : w_X11_suspects a0 x1 x2 x3 h K) : CT G M_X11_suspects rm_X11_suspects 0 0 [] [vr 11 a0 0, vi x1, vi x2, vi x3] h K := by
  unfold w_X11_suspects at hf
  refine CT.of (ls0 := [(0, vr 11 a0 0), (1, vi x1), (2, vi x2), (3, vi x3)]) (plainFor_of_name (by decide +kernel)) (by decide +kernel) (Nat.le_of_ble_eq_true rfl) rfl rfl ?_
  refine p_aload_n dX11_suspects_0 rfl 0 rfl ?_
  refine p_iload_n dX11_suspects_1 rfl 1 rfl ?_
  refine p_callVi dX11_suspects_2 M_X11_isChart (Or.inr rfl) [vi x1] (t_X11_isChart _ _ _ _ h0 hf) ok_X11_isChart rfl (c := 11) (by decide) h0 rfl tb_1165 ⟨tb_1167, ts_81⟩ rfl (Nat.le_of_ble_eq_true rfl) ⟨rfl, rfl⟩ ⟨by decide, by decide⟩ ⟨by decide, by decide⟩ (fun r1 h2 hf => ?_)
  refine p_if_eq (tgt := 33) (q := r1 = 0) dX11_suspects_5 (by decide) Iff.rfl (fun hc => ?_) (fun hc => ?_)
  · replace hf := Eq.mp (if_pos hc) hf
    refine p_sub (ls' := []) [] rfl ?_
    exact t_X11_suspects_33 h0   _ hf
  · replace hf := Eq.mp (if_neg hc) hf
    refine p_iload_n dX11_suspects_8 rfl 2 rfl ?_
    refine p_i2l dX11_suspects_9 ?_
    refine p_lconst (z := 0) dX11_suspects_10 rfl ?_
    refine p_ldc2 (z := 20) dX11_suspects_11 tb_1311 (by decide) ?_
    refine p_callSi dX11_suspects_14 M_X11_in (Or.inr rfl) [vl x2, vl 0, vl 20] (t_X11_in _ _ _ _ _ hf) ok_X11_in rfl tb_1079 tb_1080 rfl (Nat.le_of_ble_eq_true rfl) ⟨rfl, rfl⟩ ⟨by decide, by decide⟩ ⟨by decide, by decide⟩ (fun r3 h4 hf => ?_)
    refine p_if_eq (tgt := 33) (q := r3 = 0) dX11_suspects_17 (by decide) Iff.rfl (fun hc => ?_) (fun hc => ?_)
    · replace hf := Eq.mp (if_pos hc) hf
      refine p_sub (ls' := []) [] rfl ?_
      exact t_X11_suspects_33 h0   _ hf
    · replace hf := Eq.mp (if_neg hc) hf
      refine p_iload_n dX11_suspects_20 rfl 3 rfl ?_
      refine p_if_lt (tgt := 33) (q := x3 < 0) dX11_suspects_21 (by decide) Iff.rfl (fun hc => ?_) (fun hc => ?_)
      · replace hf := Eq.mp (if_pos hc) hf
        refine p_sub (ls' := []) [] rfl ?_
        exact t_X11_suspects_33 h0   _ hf
      · replace hf := Eq.mp (if_neg hc) hf
        refine p_aload_n dX11_suspects_24 rfl 0 rfl ?_
        refine p_iload_n dX11_suspects_25 rfl 1 rfl ?_
        refine p_iload_n dX11_suspects_26 rfl 2 rfl ?_
        refine p_callVi dX11_suspects_27 M_X11_finds (Or.inr rfl) [vi x1, vi x2] (t_X11_finds _ _ _ _ _ h0 hf) ok_X11_finds rfl (c := 11) (by decide) h0 rfl tb_1320 ⟨tb_1322, ts_99⟩ rfl (Nat.le_of_ble_eq_true rfl) ⟨rfl, rfl⟩ ⟨by decide, by decide⟩ ⟨by decide, by decide⟩ (fun r5 h6 hf => ?_)
        refine p_if_ne (tgt := 35) (q := r5 ≠ 0) dX11_suspects_30 (by decide) Iff.rfl (fun hc => ?_) (fun hc => ?_)
        · replace hf := Eq.mp (if_pos hc) hf
          refine p_iload_n dX11_suspects_35 rfl 3 rfl ?_
          refine p_iconst dX11_suspects_36 (by decide) ?_
          refine p_icmp_ge (tgt := 59) (q := x3 ≥ 2) dX11_suspects_37 (by decide) Iff.rfl (fun hc => ?_) (fun hc => ?_)
          · replace hf := Eq.mp (if_pos hc) hf
            refine p_iload_n dX11_suspects_59 rfl 3 rfl ?_
            refine p_iconst dX11_suspects_60 (by decide) ?_
            refine p_isub dX11_suspects_61 ?_
            refine p_istore (ls' := [(4, vi (w32 (x3 - 2))), (0, vr 11 a0 0), (1, vi x1), (2, vi x2), (3, vi x3)]) dX11_suspects_62 (by decide) rfl ?_
            replace hf := vb_e hf
            generalize (w32 (x3 - 2)) = z7 at hf ⊢
            refine p_iconst dX11_suspects_64 (by decide) ?_
            refine p_istore (ls' := [(5, vi 0), (4, vi z7), (0, vr 11 a0 0), (1, vi x1), (2, vi x2), (3, vi x3)]) dX11_suspects_65 (by decide) rfl ?_
            refine p_sub (ls' := [(0, vr 11 a0 0), (4, vi z7), (5, vi 0)]) [2, 1, 0] rfl ?_
            refine t_X11_suspects_67 h0 ?_ ?_ NF _ _ _ hf
            · intro u11 h10 hf
              refine p_aload_n dX11_suspects_96 rfl 0 rfl ?_
              refine p_lay (c := 11) (tq := 100) (n := 12) dX11_suspects_97 55 38 tb_948 (by decide) (by decide) h0 (by decide) (by decide) (fun _ => rfl) (vr 100 (a0 + 38) 12) rfl ?_
              refine p_iload dX11_suspects_100 1 rfl ?_
              obtain ⟨c12, hf⟩ := hf
              refine p_iald dX11_suspects_102 (by omega) c12 ?_
              exact p_iret dX11_suspects_103 rfl (by decide) (by decide) (fun _ h => absurd h List.not_mem_nil) hf
            · intro h13 hf
              refine p_iconst dX11_suspects_113 (by decide) ?_
              exact p_iret dX11_suspects_114 rfl (by decide) (by decide) (fun _ h => absurd h List.not_mem_nil) hf
          · replace hf := Eq.mp (if_neg hc) hf
            refine p_iload_n dX11_suspects_40 rfl 3 rfl ?_
            refine p_if_ne (tgt := 54) (q := x3 ≠ 0) dX11_suspects_41 (by decide) Iff.rfl (fun hc => ?_) (fun hc => ?_)
            · replace hf := Eq.mp (if_pos hc) hf
              refine p_aload_n dX11_suspects_54 rfl 0 rfl ?_
              refine p_get (c := 11) (vi (h6 a0 58)) dX11_suspects_55 58 tb_951 (by decide) (by decide) (Or.inl rfl) h0 rfl rfl ?_
              refine p_sub (ls' := []) [] rfl ?_
              exact t_X11_suspects_58 h0  _ _ hf
            · replace hf := Eq.mp (if_neg hc) hf
              refine p_aload_n dX11_suspects_44 rfl 0 rfl ?_
              refine p_get (c := 11) (vi (h6 a0 57)) dX11_suspects_45 57 tb_950 (by decide) (by decide) (Or.inl rfl) h0 rfl rfl ?_
              refine p_callSi dX11_suspects_48 M_X11_bits (Or.inl rfl) [vi (h6 a0 57)] (t_X11_bits _ _ _ hf) ok_X11_bits rfl tb_1328 tb_1329 rfl (Nat.le_of_ble_eq_true rfl) ⟨rfl, rfl⟩ ⟨by decide, by decide⟩ ⟨by decide, by decide⟩ (fun r14 h15 hf => ?_)
              refine p_goto (tgt := 58) dX11_suspects_51 (by decide) ?_
              refine p_sub (ls' := []) [] rfl ?_
              exact t_X11_suspects_58 h0  _ _ hf
        · replace hf := Eq.mp (if_neg hc) hf
          refine p_sub (ls' := []) [] rfl ?_
          exact t_X11_suspects_33 h0   _ hf
theorem ok_X11_suspects : mOK M_X11_suspects 3 := ⟨tb_1319, tb_9, by decide +kernel⟩
abbrev M_X11_count : MD := (yX11_count, cX11_count, 2, some .int)
abbrev rm_X11_count : Room := { frames := 0, cells := 0, slots := 0, locals := 0 }
def w_X11_count (a0 x1 : Int) (h : Hh) (K : Int → Hh → Prop) : Prop := if x1 = 0 then (K (h a0 29) h) else (if x1 = 1 then (K (h a0 11) h) else (if x1 = 2 then (K (h a0 18) h) else (if x1 = 3 then (K (h a0 30) h) else (if x1 = 4 then (K (h a0 36) h) else (if x1 = 5 then (K (h a0 42) h) else (if x1 = 6 then (K (h a0 1) h) else (if x1 = 7 then (K (h a0 27) h) else (K (-1) h))))))))
set_option maxRecDepth 100000 in
set_option maxHeartbeats 4000000 in
theorem t_X11_count {G : Gx} (a0 x1 : Int) (h : Hh) (K : Int → Hh → Prop) (h0 : 0 ≤ a0) (hf : w_X11_count a0 x1 h K) : CT G M_X11_count rm_X11_count 0 0 [] [vr 11 a0 0, vi x1] h K := by
  unfold w_X11_count at hf
  refine CT.of (ls0 := [(0, vr 11 a0 0), (1, vi x1)]) (plainFor_of_name (by decide +kernel)) (by decide +kernel) (Nat.le_of_ble_eq_true rfl) rfl rfl ?_
  refine p_iload_n dX11_count_0 rfl 1 rfl ?_
  by_cases hc : x1 = 0
  · replace hf := Eq.mp (if_pos hc) hf
    refine p_tsIn (tgt := 48) (off := 47) dX11_count_1 (by omega) (by omega) (by rw [hc]; rfl) (by decide) ?_
    refine p_aload_n dX11_count_48 rfl 0 rfl ?_
    refine p_get (c := 11) (vi (h a0 29)) dX11_count_49 29 tb_922 (by decide) (by decide) (Or.inl rfl) h0 rfl rfl ?_
    exact p_iret dX11_count_52 rfl (by decide) (by decide) (fun _ h => absurd h List.not_mem_nil) hf
  replace hf := Eq.mp (if_neg hc) hf
  have hc1_0 := hc
  clear hc
  by_cases hc : x1 = 1
  · replace hf := Eq.mp (if_pos hc) hf
    refine p_tsIn (tgt := 53) (off := 52) dX11_count_1 (by omega) (by omega) (by rw [hc]; rfl) (by decide) ?_
    refine p_aload_n dX11_count_53 rfl 0 rfl ?_
    refine p_get (c := 11) (vi (h a0 11)) dX11_count_54 11 tb_904 (by decide) (by decide) (Or.inl rfl) h0 rfl rfl ?_
    exact p_iret dX11_count_57 rfl (by decide) (by decide) (fun _ h => absurd h List.not_mem_nil) hf
  replace hf := Eq.mp (if_neg hc) hf
  have hc1_1 := hc
  clear hc
  by_cases hc : x1 = 2
  · replace hf := Eq.mp (if_pos hc) hf
    refine p_tsIn (tgt := 58) (off := 57) dX11_count_1 (by omega) (by omega) (by rw [hc]; rfl) (by decide) ?_
    refine p_aload_n dX11_count_58 rfl 0 rfl ?_
    refine p_get (c := 11) (vi (h a0 18)) dX11_count_59 18 tb_911 (by decide) (by decide) (Or.inl rfl) h0 rfl rfl ?_
    exact p_iret dX11_count_62 rfl (by decide) (by decide) (fun _ h => absurd h List.not_mem_nil) hf
  replace hf := Eq.mp (if_neg hc) hf
  have hc1_2 := hc
  clear hc
  by_cases hc : x1 = 3
  · replace hf := Eq.mp (if_pos hc) hf
    refine p_tsIn (tgt := 63) (off := 62) dX11_count_1 (by omega) (by omega) (by rw [hc]; rfl) (by decide) ?_
    refine p_aload_n dX11_count_63 rfl 0 rfl ?_
    refine p_get (c := 11) (vi (h a0 30)) dX11_count_64 30 tb_923 (by decide) (by decide) (Or.inl rfl) h0 rfl rfl ?_
    exact p_iret dX11_count_67 rfl (by decide) (by decide) (fun _ h => absurd h List.not_mem_nil) hf
  replace hf := Eq.mp (if_neg hc) hf
  have hc1_3 := hc
  clear hc
  by_cases hc : x1 = 4
  · replace hf := Eq.mp (if_pos hc) hf
    refine p_tsIn (tgt := 68) (off := 67) dX11_count_1 (by omega) (by omega) (by rw [hc]; rfl) (by decide) ?_
    refine p_aload_n dX11_count_68 rfl 0 rfl ?_
    refine p_get (c := 11) (vi (h a0 36)) dX11_count_69 36 tb_929 (by decide) (by decide) (Or.inl rfl) h0 rfl rfl ?_
    exact p_iret dX11_count_72 rfl (by decide) (by decide) (fun _ h => absurd h List.not_mem_nil) hf
  replace hf := Eq.mp (if_neg hc) hf
  have hc1_4 := hc
  clear hc
  by_cases hc : x1 = 5
  · replace hf := Eq.mp (if_pos hc) hf
    refine p_tsIn (tgt := 73) (off := 72) dX11_count_1 (by omega) (by omega) (by rw [hc]; rfl) (by decide) ?_
    refine p_aload_n dX11_count_73 rfl 0 rfl ?_
    refine p_get (c := 11) (vi (h a0 42)) dX11_count_74 42 tb_935 (by decide) (by decide) (Or.inl rfl) h0 rfl rfl ?_
    exact p_iret dX11_count_77 rfl (by decide) (by decide) (fun _ h => absurd h List.not_mem_nil) hf
  replace hf := Eq.mp (if_neg hc) hf
  have hc1_5 := hc
  clear hc
  by_cases hc : x1 = 6
  · replace hf := Eq.mp (if_pos hc) hf
    refine p_tsIn (tgt := 78) (off := 77) dX11_count_1 (by omega) (by omega) (by rw [hc]; rfl) (by decide) ?_
    refine p_aload_n dX11_count_78 rfl 0 rfl ?_
    refine p_get (c := 11) (vi (h a0 1)) dX11_count_79 1 tb_894 (by decide) (by decide) (Or.inl rfl) h0 rfl rfl ?_
    exact p_iret dX11_count_82 rfl (by decide) (by decide) (fun _ h => absurd h List.not_mem_nil) hf
  replace hf := Eq.mp (if_neg hc) hf
  have hc1_6 := hc
  clear hc
  by_cases hc : x1 = 7
  · replace hf := Eq.mp (if_pos hc) hf
    refine p_tsIn (tgt := 83) (off := 82) dX11_count_1 (by omega) (by omega) (by rw [hc]; rfl) (by decide) ?_
    refine p_aload_n dX11_count_83 rfl 0 rfl ?_
    refine p_get (c := 11) (vi (h a0 27)) dX11_count_84 27 tb_920 (by decide) (by decide) (Or.inl rfl) h0 rfl rfl ?_
    exact p_iret dX11_count_87 rfl (by decide) (by decide) (fun _ h => absurd h List.not_mem_nil) hf
  replace hf := Eq.mp (if_neg hc) hf
  have hc1_7 := hc
  clear hc
  refine p_tsOut (tgt := 88) dX11_count_1 (by omega) (by decide) ?_
  refine p_iconst dX11_count_88 (by decide) ?_
  exact p_iret dX11_count_89 rfl (by decide) (by decide) (fun _ h => absurd h List.not_mem_nil) hf
theorem ok_X11_count : mOK M_X11_count 1 := ⟨tb_1338, tb_9, by decide +kernel⟩
