abbrev M_X2_weighBadOnes : MD := (yX2_weighBadOnes, cX2_weighBadOnes, 5, some .boolean)
abbrev rm_X2_weighBadOnes : Room := { frames := 1, cells := 0, slots := 0, locals := 22 }
def w_X2_weighBadOnes_15 (K : Int → Hh → Prop) (X51 : Int → Int → Int → Hh → Prop) (a0 : Int) : Nat → Int → Int → Int → Int → Hh → Prop
  | 0, _, _, _, _, _ => False
  | n + 1, v1, v2, v3, v4, h => if v4 ≥ v1 then (X51 v1 v2 v3 h) else (if v4 ≥ 4 then (X51 v1 v2 v3 h) else (((0 : Int) ≤ w32 ((w32 (v2 * 4)) + v4) ∧ (w32 ((w32 (v2 * 4)) + v4) : Int) < 240) ∧ (w_X2_bitOf a0 (h (a0 + 2) (w32 ((w32 (v2 * 4)) + v4))) h (fun r2 h3 => vb ((i32 v3 ||| i32 r2).toInt) fun z4 => vb (w32 (v4 + 1)) fun z5 => w_X2_weighBadOnes_15 K X51 a0 n v1 v2 z4 z5 h3))))
set_option maxRecDepth 100000 in
set_option maxHeartbeats 4000000 in
theorem t_X2_weighBadOnes_15 {G : Gx} {n0 : Int} {K : Int → Hh → Prop} {X51 : Int → Int → Int → Hh → Prop} {a0 : Int} (h0 : 0 ≤ a0) (hX51 : ∀ (v1 v2 v3 : Int) (h : Hh), X51 v1 v2 v3 h → PW G M_X2_weighBadOnes rm_X2_weighBadOnes 0 0 [] n0 K 51 [(0, vr 2 a0 0), (1, vi v1), (2, vi v2), (3, vi v3)] [] [] 0 0 h) : ∀ (n : Nat) (v1 v2 v3 v4 : Int) (h : Hh), w_X2_weighBadOnes_15 K X51 a0 n v1 v2 v3 v4 h → PW G M_X2_weighBadOnes rm_X2_weighBadOnes 0 0 [] n0 K 15 [(0, vr 2 a0 0), (1, vi v1), (2, vi v2), (3, vi v3), (4, vi v4)] [] [] 0 0 h := by
  intro n
  induction n with
  | zero =>
    intro v1 v2 v3 v4 h hf
    rw [w_X2_weighBadOnes_15] at hf
    exact hf.elim
  | succ n ih =>
    intro v1 v2 v3 v4 h hf
    rw [w_X2_weighBadOnes_15] at hf
    refine p_iload dX2_weighBadOnes_15 4 rfl ?_
    refine p_iload_n dX2_weighBadOnes_17 rfl 1 rfl ?_
    refine p_icmp_ge (tgt := 51) (q := v4 ≥ v1) dX2_weighBadOnes_18 (by decide) Iff.rfl (fun hc => ?_) (fun hc => ?_)
    · replace hf := Eq.mp (if_pos hc) hf
      refine p_sub (ls' := [(0, vr 2 a0 0), (1, vi v1), (2, vi v2), (3, vi v3)]) [0, 1, 2, 3] rfl ?_
      exact hX51 _ _ _ _ hf
    · replace hf := Eq.mp (if_neg hc) hf
      refine p_iload dX2_weighBadOnes_21 4 rfl ?_
      refine p_iconst dX2_weighBadOnes_23 (by decide) ?_
      refine p_icmp_ge (tgt := 51) (q := v4 ≥ 4) dX2_weighBadOnes_24 (by decide) Iff.rfl (fun hc => ?_) (fun hc => ?_)
      · replace hf := Eq.mp (if_pos hc) hf
        refine p_sub (ls' := [(0, vr 2 a0 0), (1, vi v1), (2, vi v2), (3, vi v3)]) [0, 1, 2, 3] rfl ?_
        exact hX51 _ _ _ _ hf
      · replace hf := Eq.mp (if_neg hc) hf
        refine p_iload_n dX2_weighBadOnes_27 rfl 3 rfl ?_
        refine p_aload_n dX2_weighBadOnes_28 rfl 0 rfl ?_
        refine p_aload_n dX2_weighBadOnes_29 rfl 0 rfl ?_
        refine p_lay (c := 2) (tq := 100) (n := 240) dX2_weighBadOnes_30 1 2 tb_198 (by decide) (by decide) h0 (by decide) (by decide) (fun _ => rfl) (vr 100 (a0 + 2) 240) rfl ?_
        refine p_iload_n dX2_weighBadOnes_33 rfl 2 rfl ?_
        refine p_iconst dX2_weighBadOnes_34 (by decide) ?_
        refine p_imul dX2_weighBadOnes_35 ?_
        refine p_iload dX2_weighBadOnes_36 4 rfl ?_
        refine p_iadd dX2_weighBadOnes_38 ?_
        obtain ⟨c1, hf⟩ := hf
        refine p_iald dX2_weighBadOnes_39 (nnk h0 (by decide)) c1 ?_
        refine p_callVi dX2_weighBadOnes_40 M_X2_bitOf (Or.inl rfl) [vi (h (a0 + 2) (w32 ((w32 (v2 * 4)) + v4)))] (t_X2_bitOf _ _ _ _ h0 hf) ok_X2_bitOf rfl (c := 2) (by decide) h0 rfl tb_865 ⟨tb_867, ts_69⟩ rfl (Nat.le_of_ble_eq_true rfl) ⟨rfl, rfl⟩ ⟨by decide, by decide⟩ ⟨by decide, by decide⟩ (fun r2 h3 hf => ?_)
        refine p_ior dX2_weighBadOnes_43 ?_
        refine p_istore_n (ls' := [(3, vi ((i32 v3 ||| i32 r2).toInt)), (0, vr 2 a0 0), (1, vi v1), (2, vi v2), (4, vi v4)]) dX2_weighBadOnes_44 rfl (by decide) rfl ?_
        replace hf := vb_e hf
        generalize ((i32 v3 ||| i32 r2).toInt) = z4 at hf ⊢
        refine p_iinc (ls' := [(4, vi (w32 (v4 + 1))), (3, vi z4), (0, vr 2 a0 0), (1, vi v1), (2, vi v2)]) dX2_weighBadOnes_45 4 rfl (by decide) rfl ?_
        replace hf := vb_e hf
        generalize w32 (v4 + 1) = z5 at hf ⊢
        refine p_goto (tgt := 15) dX2_weighBadOnes_48 (by decide) ?_
        refine p_sub (ls' := [(0, vr 2 a0 0), (1, vi v1), (2, vi v2), (3, vi z4), (4, vi z5)]) [2, 3, 4, 1, 0] rfl ?_
        exact ih _ _ _ _ _ hf
def w_X2_weighBadOnes_51 (K : Int → Hh → Prop) (B : Int → Int → Hh → Prop) (a0 : Int) (v1 v2 v3 : Int) (h : Hh) : Prop := if v3 ≠ 0 then (((0 : Int) ≤ v2 ∧ (v2 : Int) < 60) ∧ (hb (up h (a0 + 3) v2 v3) fun h11 => vb (w32 (v2 + 1)) fun z12 => B v1 z12 h11)) else (K 0 h)
set_option maxRecDepth 100000 in
set_option maxHeartbeats 4000000 in
theorem t_X2_weighBadOnes_51 {G : Gx} {n0 : Int} {K : Int → Hh → Prop} {B : Int → Int → Hh → Prop} {a0 : Int} (h0 : 0 ≤ a0) (hB : ∀ (v1 v2 : Int) (h : Hh), B v1 v2 h → PW G M_X2_weighBadOnes rm_X2_weighBadOnes 0 0 [] n0 K 2 [(0, vr 2 a0 0), (1, vi v1), (2, vi v2)] [] [] 0 0 h)  (v1 v2 v3 : Int) (h : Hh) (hf : w_X2_weighBadOnes_51 K B a0 v1 v2 v3 h) : PW G M_X2_weighBadOnes rm_X2_weighBadOnes 0 0 [] n0 K 51 [(0, vr 2 a0 0), (1, vi v1), (2, vi v2), (3, vi v3)] [] [] 0 0 h := by
  unfold w_X2_weighBadOnes_51 at hf
  refine p_iload_n dX2_weighBadOnes_51 rfl 3 rfl ?_
  refine p_if_ne (tgt := 57) (q := v3 ≠ 0) dX2_weighBadOnes_52 (by decide) Iff.rfl (fun hc => ?_) (fun hc => ?_)
  · replace hf := Eq.mp (if_pos hc) hf
    refine p_aload_n dX2_weighBadOnes_57 rfl 0 rfl ?_
    refine p_lay (c := 2) (tq := 100) (n := 60) dX2_weighBadOnes_58 2 3 tb_199 (by decide) (by decide) h0 (by decide) (by decide) (fun _ => rfl) (vr 100 (a0 + 3) 60) rfl ?_
    refine p_iload_n dX2_weighBadOnes_61 rfl 2 rfl ?_
    refine p_iload_n dX2_weighBadOnes_62 rfl 3 rfl ?_
    obtain ⟨c10, hf⟩ := hf
    refine p_iast dX2_weighBadOnes_63 (nnk h0 (by decide)) c10 ?_
    replace hf := hb_e hf
    generalize up h (a0 + 3) v2 v3 = h11 at hf ⊢
    refine p_iinc (ls' := [(2, vi (w32 (v2 + 1))), (0, vr 2 a0 0), (1, vi v1), (3, vi v3)]) dX2_weighBadOnes_64 2 rfl (by decide) rfl ?_
    replace hf := vb_e hf
    generalize w32 (v2 + 1) = z12 at hf ⊢
    refine p_goto (tgt := 2) dX2_weighBadOnes_67 (by decide) ?_
    refine p_sub (ls' := [(0, vr 2 a0 0), (1, vi v1), (2, vi z12)]) [1, 2, 0] rfl ?_
    exact hB _ _ _ hf
  · replace hf := Eq.mp (if_neg hc) hf
    refine p_iconst dX2_weighBadOnes_55 (by decide) ?_
    exact p_zret dX2_weighBadOnes_56 rfl (by decide) (by decide) (fun _ h => absurd h List.not_mem_nil) (Or.inl rfl) hf
def w_X2_weighBadOnes_2 (K : Int → Hh → Prop) (a0 : Int) : Nat → Int → Int → Hh → Prop
  | 0, _, _, _ => False
  | n + 1, v1, v2, h => if v2 ≥ h a0 4 then (K 1 h) else (w_X2_weighBadOnes_15 K (fun u7 u8 u9 h6 => w_X2_weighBadOnes_51 K (w_X2_weighBadOnes_2 K  a0 n) a0 u7 u8 u9 h6) a0 NF v1 v2 0 0 h)
set_option maxRecDepth 100000 in
set_option maxHeartbeats 4000000 in
theorem t_X2_weighBadOnes_2 {G : Gx} {n0 : Int} {K : Int → Hh → Prop} {a0 : Int} (h0 : 0 ≤ a0) : ∀ (n : Nat) (v1 v2 : Int) (h : Hh), w_X2_weighBadOnes_2 K  a0 n v1 v2 h → PW G M_X2_weighBadOnes rm_X2_weighBadOnes 0 0 [] n0 K 2 [(0, vr 2 a0 0), (1, vi v1), (2, vi v2)] [] [] 0 0 h := by
  intro n
  induction n with
  | zero =>
    intro v1 v2 h hf
    rw [w_X2_weighBadOnes_2] at hf
    exact hf.elim
  | succ n ih =>
    intro v1 v2 h hf
    rw [w_X2_weighBadOnes_2] at hf
    refine p_iload_n dX2_weighBadOnes_2 rfl 2 rfl ?_
    refine p_aload_n dX2_weighBadOnes_3 rfl 0 rfl ?_
    refine p_get (c := 2) (vi (h a0 4)) dX2_weighBadOnes_4 4 tb_201 (by decide) (by decide) (Or.inl rfl) h0 rfl rfl ?_
    refine p_icmp_ge (tgt := 70) (q := v2 ≥ h a0 4) dX2_weighBadOnes_7 (by decide) Iff.rfl (fun hc => ?_) (fun hc => ?_)
    · replace hf := Eq.mp (if_pos hc) hf
      refine p_iconst dX2_weighBadOnes_70 (by decide) ?_
      exact p_zret dX2_weighBadOnes_71 rfl (by decide) (by decide) (fun _ h => absurd h List.not_mem_nil) (Or.inr rfl) hf
    · replace hf := Eq.mp (if_neg hc) hf
      refine p_iconst dX2_weighBadOnes_10 (by decide) ?_
      refine p_istore_n (ls' := [(3, vi 0), (0, vr 2 a0 0), (1, vi v1), (2, vi v2)]) dX2_weighBadOnes_11 rfl (by decide) rfl ?_
      refine p_iconst dX2_weighBadOnes_12 (by decide) ?_
      refine p_istore (ls' := [(4, vi 0), (3, vi 0), (0, vr 2 a0 0), (1, vi v1), (2, vi v2)]) dX2_weighBadOnes_13 (by decide) rfl ?_
      refine p_sub (ls' := [(0, vr 2 a0 0), (1, vi v1), (2, vi v2), (3, vi 0), (4, vi 0)]) [2, 3, 4, 1, 0] rfl ?_
      refine t_X2_weighBadOnes_15 h0 ?_ NF _ _ _ _ _ hf
      · intro u7 u8 u9 h6 hf
        exact t_X2_weighBadOnes_51 h0 ih _ _ _ _ hf
def w_X2_weighBadOnes (a0 x1 : Int) (h : Hh) (K : Int → Hh → Prop) : Prop := w_X2_weighBadOnes_2 K  a0 NF x1 0 h
set_option maxRecDepth 100000 in
set_option maxHeartbeats 4000000 in
theorem t_X2_weighBadOnes {G : Gx} (a0 x1 : Int) (h : Hh) (K : Int → Hh → Prop) (h0 : 0 ≤ a0) (hf : w_X2_weighBadOnes a0 x1 h K) : CT G M_X2_weighBadOnes rm_X2_weighBadOnes 0 0 [] [vr 2 a0 0, vi x1] h K := by
  unfold w_X2_weighBadOnes at hf
  refine CT.of (ls0 := [(0, vr 2 a0 0), (1, vi x1)]) (plainFor_of_name (by decide +kernel)) (by decide +kernel) (Nat.le_of_ble_eq_true rfl) rfl rfl ?_
  refine p_iconst dX2_weighBadOnes_0 (by decide) ?_
  refine p_istore_n (ls' := [(2, vi 0), (0, vr 2 a0 0), (1, vi x1)]) dX2_weighBadOnes_1 rfl (by decide) rfl ?_
  refine p_sub (ls' := [(0, vr 2 a0 0), (1, vi x1), (2, vi 0)]) [1, 2, 0] rfl ?_
  refine t_X2_weighBadOnes_2 h0  NF _ _ _ hf
theorem ok_X2_weighBadOnes : mOK M_X2_weighBadOnes 1 := ⟨tb_864, tb_8, by decide +kernel⟩
abbrev M_J6_bitCount_0f7a4 : MD := (yJ6_bitCount_0f7a4, cJ6_bitCount_0f7a4, 1, some .int)
abbrev rm_J6_bitCount_0f7a4 : Room := { frames := 0, cells := 0, slots := 0, locals := 0 }
def w_J6_bitCount_0f7a4 (x0 : Int) (h : Hh) (K : Int → Hh → Prop) : Prop := vb (w32 (x0 - ((i32 (((i32 x0).toUInt32 >>> ((i32 1).toUInt32 &&& Int32.toUInt32 31)).toInt32.toInt) &&& i32 1431655765).toInt))) fun z1 => vb (w32 (((i32 z1 &&& i32 858993459).toInt) + ((i32 (((i32 z1).toUInt32 >>> ((i32 2).toUInt32 &&& Int32.toUInt32 31)).toInt32.toInt) &&& i32 858993459).toInt))) fun z2 => vb ((i32 (w32 (z2 + (((i32 z2).toUInt32 >>> ((i32 4).toUInt32 &&& Int32.toUInt32 31)).toInt32.toInt))) &&& i32 252645135).toInt) fun z3 => vb (w32 (z3 + (((i32 z3).toUInt32 >>> ((i32 8).toUInt32 &&& Int32.toUInt32 31)).toInt32.toInt))) fun z4 => vb (w32 (z4 + (((i32 z4).toUInt32 >>> ((i32 16).toUInt32 &&& Int32.toUInt32 31)).toInt32.toInt))) fun z5 => K ((i32 z5 &&& i32 63).toInt) h
set_option maxRecDepth 100000 in
set_option maxHeartbeats 4000000 in
theorem t_J6_bitCount_0f7a4 {G : Gx} (x0 : Int) (h : Hh) (K : Int → Hh → Prop) (hf : w_J6_bitCount_0f7a4 x0 h K) : CT G M_J6_bitCount_0f7a4 rm_J6_bitCount_0f7a4 0 0 [] [vi x0] h K := by
  unfold w_J6_bitCount_0f7a4 at hf
  refine CT.of (ls0 := [(0, vi x0)]) (by decide +kernel) (by decide +kernel) (Nat.le_of_ble_eq_true rfl) rfl rfl ?_
  refine p_iload_n dJ6_bitCount_0f7a4_0 rfl 0 rfl ?_
  refine p_iload_n dJ6_bitCount_0f7a4_1 rfl 0 rfl ?_
  refine p_iconst dJ6_bitCount_0f7a4_2 (by decide) ?_
  refine p_iushr dJ6_bitCount_0f7a4_3 ?_
  refine p_ldcw (z := 1431655765) dJ6_bitCount_0f7a4_4 tb_872 (by decide) ?_
  refine p_iand dJ6_bitCount_0f7a4_7 ?_
  refine p_isub dJ6_bitCount_0f7a4_8 ?_
  refine p_istore_n (ls' := [(0, vi (w32 (x0 - ((i32 (((i32 x0).toUInt32 >>> ((i32 1).toUInt32 &&& Int32.toUInt32 31)).toInt32.toInt) &&& i32 1431655765).toInt))))]) dJ6_bitCount_0f7a4_9 rfl (by decide) rfl ?_
  replace hf := vb_e hf
  generalize (w32 (x0 - ((i32 (((i32 x0).toUInt32 >>> ((i32 1).toUInt32 &&& Int32.toUInt32 31)).toInt32.toInt) &&& i32 1431655765).toInt))) = z1 at hf ⊢
  refine p_iload_n dJ6_bitCount_0f7a4_10 rfl 0 rfl ?_
  refine p_ldcw (z := 858993459) dJ6_bitCount_0f7a4_11 tb_873 (by decide) ?_
  refine p_iand dJ6_bitCount_0f7a4_14 ?_
  refine p_iload_n dJ6_bitCount_0f7a4_15 rfl 0 rfl ?_
  refine p_iconst dJ6_bitCount_0f7a4_16 (by decide) ?_
  refine p_iushr dJ6_bitCount_0f7a4_17 ?_
  refine p_ldcw (z := 858993459) dJ6_bitCount_0f7a4_18 tb_873 (by decide) ?_
  refine p_iand dJ6_bitCount_0f7a4_21 ?_
  refine p_iadd dJ6_bitCount_0f7a4_22 ?_
  refine p_istore_n (ls' := [(0, vi (w32 (((i32 z1 &&& i32 858993459).toInt) + ((i32 (((i32 z1).toUInt32 >>> ((i32 2).toUInt32 &&& Int32.toUInt32 31)).toInt32.toInt) &&& i32 858993459).toInt))))]) dJ6_bitCount_0f7a4_23 rfl (by decide) rfl ?_
  replace hf := vb_e hf
  generalize (w32 (((i32 z1 &&& i32 858993459).toInt) + ((i32 (((i32 z1).toUInt32 >>> ((i32 2).toUInt32 &&& Int32.toUInt32 31)).toInt32.toInt) &&& i32 858993459).toInt))) = z2 at hf ⊢
  refine p_iload_n dJ6_bitCount_0f7a4_24 rfl 0 rfl ?_
  refine p_iload_n dJ6_bitCount_0f7a4_25 rfl 0 rfl ?_
  refine p_iconst dJ6_bitCount_0f7a4_26 (by decide) ?_
  refine p_iushr dJ6_bitCount_0f7a4_27 ?_
  refine p_iadd dJ6_bitCount_0f7a4_28 ?_
  refine p_ldcw (z := 252645135) dJ6_bitCount_0f7a4_29 tb_874 (by decide) ?_
  refine p_iand dJ6_bitCount_0f7a4_32 ?_
  refine p_istore_n (ls' := [(0, vi ((i32 (w32 (z2 + (((i32 z2).toUInt32 >>> ((i32 4).toUInt32 &&& Int32.toUInt32 31)).toInt32.toInt))) &&& i32 252645135).toInt))]) dJ6_bitCount_0f7a4_33 rfl (by decide) rfl ?_
  replace hf := vb_e hf
  generalize ((i32 (w32 (z2 + (((i32 z2).toUInt32 >>> ((i32 4).toUInt32 &&& Int32.toUInt32 31)).toInt32.toInt))) &&& i32 252645135).toInt) = z3 at hf ⊢
  refine p_iload_n dJ6_bitCount_0f7a4_34 rfl 0 rfl ?_
  refine p_iload_n dJ6_bitCount_0f7a4_35 rfl 0 rfl ?_
  refine p_bipush dJ6_bitCount_0f7a4_36 (by decide) (by decide) ?_
  refine p_iushr dJ6_bitCount_0f7a4_38 ?_
  refine p_iadd dJ6_bitCount_0f7a4_39 ?_
  refine p_istore_n (ls' := [(0, vi (w32 (z3 + (((i32 z3).toUInt32 >>> ((i32 8).toUInt32 &&& Int32.toUInt32 31)).toInt32.toInt))))]) dJ6_bitCount_0f7a4_40 rfl (by decide) rfl ?_
  replace hf := vb_e hf
  generalize (w32 (z3 + (((i32 z3).toUInt32 >>> ((i32 8).toUInt32 &&& Int32.toUInt32 31)).toInt32.toInt))) = z4 at hf ⊢
  refine p_iload_n dJ6_bitCount_0f7a4_41 rfl 0 rfl ?_
  refine p_iload_n dJ6_bitCount_0f7a4_42 rfl 0 rfl ?_
  refine p_bipush dJ6_bitCount_0f7a4_43 (by decide) (by decide) ?_
  refine p_iushr dJ6_bitCount_0f7a4_45 ?_
  refine p_iadd dJ6_bitCount_0f7a4_46 ?_
  refine p_istore_n (ls' := [(0, vi (w32 (z4 + (((i32 z4).toUInt32 >>> ((i32 16).toUInt32 &&& Int32.toUInt32 31)).toInt32.toInt))))]) dJ6_bitCount_0f7a4_47 rfl (by decide) rfl ?_
  replace hf := vb_e hf
  generalize (w32 (z4 + (((i32 z4).toUInt32 >>> ((i32 16).toUInt32 &&& Int32.toUInt32 31)).toInt32.toInt))) = z5 at hf ⊢
  refine p_iload_n dJ6_bitCount_0f7a4_48 rfl 0 rfl ?_
  refine p_bipush dJ6_bitCount_0f7a4_49 (by decide) (by decide) ?_
  refine p_iand dJ6_bitCount_0f7a4_51 ?_
  exact p_iret dJ6_bitCount_0f7a4_52 rfl (by decide) (by decide) (fun _ h => absurd h List.not_mem_nil) hf
theorem ok_J6_bitCount_0f7a4 : mOK M_J6_bitCount_0f7a4 1 := ⟨tb_871, tb_15, by decide +kernel⟩
abbrev M_X2_hitsAllBadOnes : MD := (yX2_hitsAllBadOnes, cX2_hitsAllBadOnes, 3, some .boolean)
abbrev rm_X2_hitsAllBadOnes : Room := { frames := 0, cells := 0, slots := 0, locals := 0 }
def w_X2_hitsAllBadOnes_2 (K : Int → Hh → Prop) (a0 : Int) : Nat → Int → Int → Hh → Prop
  | 0, _, _, _ => False
  | n + 1, v1, v2, h => if v2 ≥ h a0 4 then (K 1 h) else (((0 : Int) ≤ v2 ∧ (v2 : Int) < 60) ∧ (if (i32 (h (a0 + 3) v2) &&& i32 v1).toInt ≠ 0 then (vb (w32 (v2 + 1)) fun z2 => w_X2_hitsAllBadOnes_2 K  a0 n v1 z2 h) else (K 0 h)))
set_option maxRecDepth 100000 in
set_option maxHeartbeats 4000000 in
theorem t_X2_hitsAllBadOnes_2 {G : Gx} {n0 : Int} {K : Int → Hh → Prop} {a0 : Int} (h0 : 0 ≤ a0) : ∀ (n : Nat) (v1 v2 : Int) (h : Hh), w_X2_hitsAllBadOnes_2 K  a0 n v1 v2 h → PW G M_X2_hitsAllBadOnes rm_X2_hitsAllBadOnes 0 0 [] n0 K 2 [(0, vr 2 a0 0), (1, vi v1), (2, vi v2)] [] [] 0 0 h := by
  intro n
  induction n with
  | zero =>
    intro v1 v2 h hf
    rw [w_X2_hitsAllBadOnes_2] at hf
    exact hf.elim
  | succ n ih =>
    intro v1 v2 h hf
    rw [w_X2_hitsAllBadOnes_2] at hf
    refine p_iload_n dX2_hitsAllBadOnes_2 rfl 2 rfl ?_
    refine p_aload_n dX2_hitsAllBadOnes_3 rfl 0 rfl ?_
    refine p_get (c := 2) (vi (h a0 4)) dX2_hitsAllBadOnes_4 4 tb_201 (by decide) (by decide) (Or.inl rfl) h0 rfl rfl ?_
    refine p_icmp_ge (tgt := 29) (q := v2 ≥ h a0 4) dX2_hitsAllBadOnes_7 (by decide) Iff.rfl (fun hc => ?_) (fun hc => ?_)
    · replace hf := Eq.mp (if_pos hc) hf
      refine p_iconst dX2_hitsAllBadOnes_29 (by decide) ?_
      exact p_zret dX2_hitsAllBadOnes_30 rfl (by decide) (by decide) (fun _ h => absurd h List.not_mem_nil) (Or.inr rfl) hf
    · replace hf := Eq.mp (if_neg hc) hf
      refine p_aload_n dX2_hitsAllBadOnes_10 rfl 0 rfl ?_
      refine p_lay (c := 2) (tq := 100) (n := 60) dX2_hitsAllBadOnes_11 2 3 tb_199 (by decide) (by decide) h0 (by decide) (by decide) (fun _ => rfl) (vr 100 (a0 + 3) 60) rfl ?_
      refine p_iload_n dX2_hitsAllBadOnes_14 rfl 2 rfl ?_
      obtain ⟨c1, hf⟩ := hf
      refine p_iald dX2_hitsAllBadOnes_15 (nnk h0 (by decide)) c1 ?_
      refine p_iload_n dX2_hitsAllBadOnes_16 rfl 1 rfl ?_
      refine p_iand dX2_hitsAllBadOnes_17 ?_
      refine p_if_ne (tgt := 23) (q := (i32 (h (a0 + 3) v2) &&& i32 v1).toInt ≠ 0) dX2_hitsAllBadOnes_18 (by decide) Iff.rfl (fun hc => ?_) (fun hc => ?_)
      · replace hf := Eq.mp (if_pos hc) hf
        refine p_iinc (ls' := [(2, vi (w32 (v2 + 1))), (0, vr 2 a0 0), (1, vi v1)]) dX2_hitsAllBadOnes_23 2 rfl (by decide) rfl ?_
        replace hf := vb_e hf
        generalize w32 (v2 + 1) = z2 at hf ⊢
        refine p_goto (tgt := 2) dX2_hitsAllBadOnes_26 (by decide) ?_
        refine p_sub (ls' := [(0, vr 2 a0 0), (1, vi v1), (2, vi z2)]) [1, 2, 0] rfl ?_
        exact ih _ _ _ hf
      · replace hf := Eq.mp (if_neg hc) hf
        refine p_iconst dX2_hitsAllBadOnes_21 (by decide) ?_
        exact p_zret dX2_hitsAllBadOnes_22 rfl (by decide) (by decide) (fun _ h => absurd h List.not_mem_nil) (Or.inl rfl) hf
def w_X2_hitsAllBadOnes (a0 x1 : Int) (h : Hh) (K : Int → Hh → Prop) : Prop := w_X2_hitsAllBadOnes_2 K  a0 NF x1 0 h
set_option maxRecDepth 100000 in
set_option maxHeartbeats 4000000 in
theorem t_X2_hitsAllBadOnes {G : Gx} (a0 x1 : Int) (h : Hh) (K : Int → Hh → Prop) (h0 : 0 ≤ a0) (hf : w_X2_hitsAllBadOnes a0 x1 h K) : CT G M_X2_hitsAllBadOnes rm_X2_hitsAllBadOnes 0 0 [] [vr 2 a0 0, vi x1] h K := by
  unfold w_X2_hitsAllBadOnes at hf
  refine CT.of (ls0 := [(0, vr 2 a0 0), (1, vi x1)]) (plainFor_of_name (by decide +kernel)) (by decide +kernel) (Nat.le_of_ble_eq_true rfl) rfl rfl ?_
  refine p_iconst dX2_hitsAllBadOnes_0 (by decide) ?_
  refine p_istore_n (ls' := [(2, vi 0), (0, vr 2 a0 0), (1, vi x1)]) dX2_hitsAllBadOnes_1 rfl (by decide) rfl ?_
  refine p_sub (ls' := [(0, vr 2 a0 0), (1, vi x1), (2, vi 0)]) [1, 2, 0] rfl ?_
  refine t_X2_hitsAllBadOnes_2 h0  NF _ _ _ hf
theorem ok_X2_hitsAllBadOnes : mOK M_X2_hitsAllBadOnes 1 := ⟨tb_878, tb_8, by decide +kernel⟩
abbrev M_X2_look : MD := (yX2_look, cX2_look, 4, some .boolean)
abbrev rm_X2_look : Room := { frames := 2, cells := 0, slots := 0, locals := 46 }
def w_X2_look_15 (K : Int → Hh → Prop) (a0 : Int) (h : Hh) : Prop := K 0 h
set_option maxRecDepth 100000 in
set_option maxHeartbeats 4000000 in
theorem t_X2_look_15 {G : Gx} {n0 : Int} {K : Int → Hh → Prop} {a0 : Int} (h0 : 0 ≤ a0)  (h : Hh) (hf : w_X2_look_15 K  a0  h) : PW G M_X2_look rm_X2_look 0 0 [] n0 K 15 [] [] [] 0 0 h := by
  unfold w_X2_look_15 at hf
  refine p_iconst dX2_look_15 (by decide) ?_
  exact p_zret dX2_look_16 rfl (by decide) (by decide) (fun _ h => absurd h List.not_mem_nil) (Or.inl rfl) hf
def w_X2_look_104 (K : Int → Hh → Prop) (B : Int → Hh → Prop) (X110 : Hh → Prop) (a0 : Int) (v2 : Int) (h : Hh) : Prop := vb (w32 (v2 + (-1))) fun z11 => B z11 h
set_option maxRecDepth 100000 in
set_option maxHeartbeats 4000000 in
theorem t_X2_look_104 {G : Gx} {n0 : Int} {K : Int → Hh → Prop} {B : Int → Hh → Prop} {X110 : Hh → Prop} {a0 : Int} (h0 : 0 ≤ a0) (hB : ∀ (v2 : Int) (h : Hh), B v2 h → PW G M_X2_look rm_X2_look 0 0 [] n0 K 46 [(0, vr 2 a0 0), (2, vi v2)] [] [] 0 0 h) (hX110 : ∀ (h : Hh), X110  h → PW G M_X2_look rm_X2_look 0 0 [] n0 K 110 [(0, vr 2 a0 0)] [] [] 0 0 h)  (v2 : Int) (h : Hh) (hf : w_X2_look_104 K B X110 a0 v2 h) : PW G M_X2_look rm_X2_look 0 0 [] n0 K 104 [(0, vr 2 a0 0), (2, vi v2)] [] [] 0 0 h := by
  unfold w_X2_look_104 at hf
  refine p_iinc (ls' := [(2, vi (w32 (v2 + (-1)))), (0, vr 2 a0 0)]) dX2_look_104 1 rfl (by decide) rfl ?_
  replace hf := vb_e hf
  generalize w32 (v2 + (-1)) = z11 at hf ⊢
  refine p_goto (tgt := 46) dX2_look_107 (by decide) ?_
  refine p_sub (ls' := [(0, vr 2 a0 0), (2, vi z11)]) [1, 0] rfl ?_
  exact hB _ _ hf
def w_X2_look_94 (K : Int → Hh → Prop) (B : Int → Hh → Prop) (X110 : Hh → Prop) (a0 : Int) (v2 : Int) (h : Hh) : Prop := hb (up h a0 7 (w32 ((h a0 7) + 1))) fun h14 => w_X2_look_104 K B X110 a0 v2 h14
set_option maxRecDepth 100000 in
set_option maxHeartbeats 4000000 in
theorem t_X2_look_94 {G : Gx} {n0 : Int} {K : Int → Hh → Prop} {B : Int → Hh → Prop} {X110 : Hh → Prop} {a0 : Int} (h0 : 0 ≤ a0) (hB : ∀ (v2 : Int) (h : Hh), B v2 h → PW G M_X2_look rm_X2_look 0 0 [] n0 K 46 [(0, vr 2 a0 0), (2, vi v2)] [] [] 0 0 h) (hX110 : ∀ (h : Hh), X110  h → PW G M_X2_look rm_X2_look 0 0 [] n0 K 110 [(0, vr 2 a0 0)] [] [] 0 0 h)  (v2 : Int) (h : Hh) (hf : w_X2_look_94 K B X110 a0 v2 h) : PW G M_X2_look rm_X2_look 0 0 [] n0 K 94 [(0, vr 2 a0 0), (2, vi v2)] [] [] 0 0 h := by
  unfold w_X2_look_94 at hf
  refine p_aload_n dX2_look_94 rfl 0 rfl ?_
  refine p_dup dX2_look_95 (fun _ q => by cases q) ?_
  refine p_get (c := 2) (vi (h a0 7)) dX2_look_96 7 tb_205 (by decide) (by decide) (Or.inl rfl) h0 rfl rfl ?_
  refine p_iconst dX2_look_99 (by decide) ?_
  refine p_iadd dX2_look_100 ?_
  refine p_puti (c := 2) dX2_look_101 7 tb_205 (by decide) (by decide) (Or.inl rfl) h0 rfl rfl (fun _ => by decide) (up h a0 7 (w32 ((h a0 7) + 1))) rfl ?_
  replace hf := hb_e hf
  generalize up h a0 7 (w32 ((h a0 7) + 1)) = h14 at hf ⊢
  exact t_X2_look_104 h0 hB hX110 _ _ hf
def w_X2_look_46 (K : Int → Hh → Prop) (X110 : Hh → Prop) (a0 : Int) : Nat → Int → Hh → Prop
  | 0, _, _ => False
  | n + 1, v2, h => if v2 < 0 then (X110  h) else (w_J6_bitCount_0f7a4 v2 h (fun r9 h10 => if r9 > h10 a0 6 then (w_X2_look_104 K (w_X2_look_46 K X110 a0 n) X110 a0 v2 h10) else (w_X2_hitsAllBadOnes a0 v2 h10 (fun r12 h13 => if r12 = 0 then (w_X2_look_104 K (w_X2_look_46 K X110 a0 n) X110 a0 v2 h13) else (if r9 ≥ h13 a0 6 then (w_X2_look_94 K (w_X2_look_46 K X110 a0 n) X110 a0 v2 h13) else (hb (up h13 a0 6 r9) fun h15 => hb (up h15 a0 7 0) fun h16 => hb (up h16 a0 8 v2) fun h17 => w_X2_look_94 K (w_X2_look_46 K X110 a0 n) X110 a0 v2 h17))))))
set_option maxRecDepth 100000 in
set_option maxHeartbeats 4000000 in
theorem t_X2_look_46 {G : Gx} {n0 : Int} {K : Int → Hh → Prop} {X110 : Hh → Prop} {a0 : Int} (h0 : 0 ≤ a0) (hX110 : ∀ (h : Hh), X110  h → PW G M_X2_look rm_X2_look 0 0 [] n0 K 110 [(0, vr 2 a0 0)] [] [] 0 0 h) : ∀ (n : Nat) (v2 : Int) (h : Hh), w_X2_look_46 K X110 a0 n v2 h → PW G M_X2_look rm_X2_look 0 0 [] n0 K 46 [(0, vr 2 a0 0), (2, vi v2)] [] [] 0 0 h := by
  intro n
  induction n with
  | zero =>
    intro v2 h hf
    rw [w_X2_look_46] at hf
    exact hf.elim
  | succ n ih =>
    intro v2 h hf
    rw [w_X2_look_46] at hf
    refine p_iload_n dX2_look_46 rfl 1 rfl ?_
    refine p_if_lt (tgt := 110) (q := v2 < 0) dX2_look_47 (by decide) Iff.rfl (fun hc => ?_) (fun hc => ?_)
    · replace hf := Eq.mp (if_pos hc) hf
      refine p_sub (ls' := [(0, vr 2 a0 0)]) [0] rfl ?_
      exact hX110  _ hf
    · replace hf := Eq.mp (if_neg hc) hf
      refine p_iload_n dX2_look_50 rfl 1 rfl ?_
      refine p_callSi dX2_look_51 M_J6_bitCount_0f7a4 (Or.inl rfl) [vi v2] (t_J6_bitCount_0f7a4 _ _ _ hf) ok_J6_bitCount_0f7a4 rfl tb_869 tb_870 rfl (Nat.le_of_ble_eq_true rfl) ⟨rfl, rfl⟩ ⟨by decide, by decide⟩ ⟨by decide, by decide⟩ (fun r9 h10 hf => ?_)
      refine p_istore_n (ls' := [(3, vi r9), (0, vr 2 a0 0), (2, vi v2)]) dX2_look_54 rfl (by decide) rfl ?_
      refine p_iload_n dX2_look_55 rfl 0 rfl ?_
      refine p_aload_n dX2_look_56 rfl 1 rfl ?_
      refine p_get (c := 2) (vi (h10 a0 6)) dX2_look_57 6 tb_203 (by decide) (by decide) (Or.inl rfl) h0 rfl rfl ?_
      refine p_icmp_gt (tgt := 104) (q := r9 > h10 a0 6) dX2_look_60 (by decide) Iff.rfl (fun hc => ?_) (fun hc => ?_)
      · replace hf := Eq.mp (if_pos hc) hf
        refine p_sub (ls' := [(0, vr 2 a0 0), (2, vi v2)]) [1, 2] rfl ?_
        exact t_X2_look_104 h0 ih hX110 _ _ hf
      · replace hf := Eq.mp (if_neg hc) hf
        refine p_aload_n dX2_look_63 rfl 1 rfl ?_
        refine p_iload_n dX2_look_64 rfl 2 rfl ?_
        refine p_callVi dX2_look_65 M_X2_hitsAllBadOnes (Or.inr rfl) [vi v2] (t_X2_hitsAllBadOnes _ _ _ _ h0 hf) ok_X2_hitsAllBadOnes rfl (c := 2) (by decide) h0 rfl tb_875 ⟨tb_877, ts_70⟩ rfl (Nat.le_of_ble_eq_true rfl) ⟨rfl, rfl⟩ ⟨by decide, by decide⟩ ⟨by decide, by decide⟩ (fun r12 h13 hf => ?_)
        refine p_if_eq (tgt := 104) (q := r12 = 0) dX2_look_68 (by decide) Iff.rfl (fun hc => ?_) (fun hc => ?_)
        · replace hf := Eq.mp (if_pos hc) hf
          refine p_sub (ls' := [(0, vr 2 a0 0), (2, vi v2)]) [1, 2] rfl ?_
          exact t_X2_look_104 h0 ih hX110 _ _ hf
        · replace hf := Eq.mp (if_neg hc) hf
          refine p_iload_n dX2_look_71 rfl 0 rfl ?_
          refine p_aload_n dX2_look_72 rfl 1 rfl ?_
          refine p_get (c := 2) (vi (h13 a0 6)) dX2_look_73 6 tb_203 (by decide) (by decide) (Or.inl rfl) h0 rfl rfl ?_
          refine p_icmp_ge (tgt := 94) (q := r9 ≥ h13 a0 6) dX2_look_76 (by decide) Iff.rfl (fun hc => ?_) (fun hc => ?_)
          · replace hf := Eq.mp (if_pos hc) hf
            refine p_sub (ls' := [(0, vr 2 a0 0), (2, vi v2)]) [1, 2] rfl ?_
            exact t_X2_look_94 h0 ih hX110 _ _ hf
          · replace hf := Eq.mp (if_neg hc) hf
            refine p_aload_n dX2_look_79 rfl 1 rfl ?_
            refine p_iload_n dX2_look_80 rfl 0 rfl ?_
            refine p_puti (c := 2) dX2_look_81 6 tb_203 (by decide) (by decide) (Or.inl rfl) h0 rfl rfl (fun _ => by decide) (up h13 a0 6 r9) rfl ?_
            replace hf := hb_e hf
            generalize up h13 a0 6 r9 = h15 at hf ⊢
            refine p_aload_n dX2_look_84 rfl 1 rfl ?_
            refine p_iconst dX2_look_85 (by decide) ?_
            refine p_puti (c := 2) dX2_look_86 7 tb_205 (by decide) (by decide) (Or.inl rfl) h0 rfl rfl (fun _ => by decide) (up h15 a0 7 0) rfl ?_
            replace hf := hb_e hf
            generalize up h15 a0 7 0 = h16 at hf ⊢
            refine p_aload_n dX2_look_89 rfl 1 rfl ?_
            refine p_iload_n dX2_look_90 rfl 2 rfl ?_
            refine p_puti (c := 2) dX2_look_91 8 tb_207 (by decide) (by decide) (Or.inl rfl) h0 rfl rfl (fun _ => by decide) (up h16 a0 8 v2) rfl ?_
            replace hf := hb_e hf
            generalize up h16 a0 8 v2 = h17 at hf ⊢
            refine p_sub (ls' := [(0, vr 2 a0 0), (2, vi v2)]) [1, 2] rfl ?_
            exact t_X2_look_94 h0 ih hX110 _ _ hf
def w_X2_look_122 (K : Int → Hh → Prop) (a0 : Int) (s0 : Int) (h : Hh) : Prop := (s0 = 0 ∨ s0 = 1) ∧ (K s0 h)
set_option maxRecDepth 100000 in
set_option maxHeartbeats 4000000 in
theorem t_X2_look_122 {G : Gx} {n0 : Int} {K : Int → Hh → Prop} {a0 : Int} (h0 : 0 ≤ a0)  (s0 : Int) (h : Hh) (hf : w_X2_look_122 K  a0 s0 h) : PW G M_X2_look rm_X2_look 0 0 [] n0 K 122 [] [vi s0] [] 0 0 h := by
  unfold w_X2_look_122 at hf
  obtain ⟨c19, hf⟩ := hf
  exact p_zret dX2_look_122 rfl (by decide) (by decide) (fun _ h => absurd h List.not_mem_nil) c19 hf
def w_X2_look (a0 x1 : Int) (h : Hh) (K : Int → Hh → Prop) : Prop := w_X2_findCandidates a0 h (fun r1 h2 => if r1 = 0 then (w_X2_look_15 K  a0  h2) else (w_X2_weighBadOnes a0 x1 h2 (fun r3 h4 => if r3 ≠ 0 then (hb (up h4 a0 6 (w32 ((h4 a0 5) + 1))) fun h5 => hb (up h5 a0 7 0) fun h6 => hb (up h6 a0 8 0) fun h7 => vb (w32 (((i32 1 <<< (i32 (h7 a0 5) &&& 31)).toInt) - 1)) fun z8 => w_X2_look_46 K (fun h18 => if h18 a0 7 ≤ 0 then (w_X2_look_122 K  a0 0 h18) else (w_X2_look_122 K  a0 1 h18)) a0 NF z8 h7) else (w_X2_look_15 K  a0  h4))))
set_option maxRecDepth 100000 in
set_option maxHeartbeats 4000000 in
theorem t_X2_look {G : Gx} (a0 x1 : Int) (h : Hh) (K : Int → Hh → Prop) (h0 : 0 ≤ a0) (hf : w_X2_look a0 x1 h K) : CT G M_X2_look rm_X2_look 0 0 [] [vr 2 a0 0, vi x1] h K := by
  unfold w_X2_look at hf
  refine CT.of (ls0 := [(0, vr 2 a0 0), (1, vi x1)]) (plainFor_of_name (by decide +kernel)) (by decide +kernel) (Nat.le_of_ble_eq_true rfl) rfl rfl ?_
  refine p_aload_n dX2_look_0 rfl 0 rfl ?_
  refine p_callVi dX2_look_1 M_X2_findCandidates (Or.inr rfl) [] (t_X2_findCandidates _ _ _ h0 hf) ok_X2_findCandidates rfl (c := 2) (by decide) h0 rfl tb_857 ⟨tb_859, ts_67⟩ rfl (Nat.le_of_ble_eq_true rfl) ⟨rfl, rfl⟩ ⟨by decide, by decide⟩ ⟨by decide, by decide⟩ (fun r1 h2 hf => ?_)
  refine p_if_eq (tgt := 15) (q := r1 = 0) dX2_look_4 (by decide) Iff.rfl (fun hc => ?_) (fun hc => ?_)
  · replace hf := Eq.mp (if_pos hc) hf
    refine p_sub (ls' := []) [] rfl ?_
    exact t_X2_look_15 h0   _ hf
  · replace hf := Eq.mp (if_neg hc) hf
    refine p_aload_n dX2_look_7 rfl 0 rfl ?_
    refine p_iload_n dX2_look_8 rfl 1 rfl ?_
    refine p_callVi dX2_look_9 M_X2_weighBadOnes (Or.inr rfl) [vi x1] (t_X2_weighBadOnes _ _ _ _ h0 hf) ok_X2_weighBadOnes rfl (c := 2) (by decide) h0 rfl tb_861 ⟨tb_863, ts_68⟩ rfl (Nat.le_of_ble_eq_true rfl) ⟨rfl, rfl⟩ ⟨by decide, by decide⟩ ⟨by decide, by decide⟩ (fun r3 h4 hf => ?_)
    refine p_if_ne (tgt := 17) (q := r3 ≠ 0) dX2_look_12 (by decide) Iff.rfl (fun hc => ?_) (fun hc => ?_)
    · replace hf := Eq.mp (if_pos hc) hf
      refine p_aload_n dX2_look_17 rfl 0 rfl ?_
      refine p_aload_n dX2_look_18 rfl 0 rfl ?_
      refine p_get (c := 2) (vi (h4 a0 5)) dX2_look_19 5 tb_202 (by decide) (by decide) (Or.inl rfl) h0 rfl rfl ?_
      refine p_iconst dX2_look_22 (by decide) ?_
      refine p_iadd dX2_look_23 ?_
      refine p_puti (c := 2) dX2_look_24 6 tb_203 (by decide) (by decide) (Or.inl rfl) h0 rfl rfl (fun _ => by decide) (up h4 a0 6 (w32 ((h4 a0 5) + 1))) rfl ?_
      replace hf := hb_e hf
      generalize up h4 a0 6 (w32 ((h4 a0 5) + 1)) = h5 at hf ⊢
      refine p_aload_n dX2_look_27 rfl 0 rfl ?_
      refine p_iconst dX2_look_28 (by decide) ?_
      refine p_puti (c := 2) dX2_look_29 7 tb_205 (by decide) (by decide) (Or.inl rfl) h0 rfl rfl (fun _ => by decide) (up h5 a0 7 0) rfl ?_
      replace hf := hb_e hf
      generalize up h5 a0 7 0 = h6 at hf ⊢
      refine p_aload_n dX2_look_32 rfl 0 rfl ?_
      refine p_iconst dX2_look_33 (by decide) ?_
      refine p_puti (c := 2) dX2_look_34 8 tb_207 (by decide) (by decide) (Or.inl rfl) h0 rfl rfl (fun _ => by decide) (up h6 a0 8 0) rfl ?_
      replace hf := hb_e hf
      generalize up h6 a0 8 0 = h7 at hf ⊢
      refine p_iconst dX2_look_37 (by decide) ?_
      refine p_aload_n dX2_look_38 rfl 0 rfl ?_
      refine p_get (c := 2) (vi (h7 a0 5)) dX2_look_39 5 tb_202 (by decide) (by decide) (Or.inl rfl) h0 rfl rfl ?_
      refine p_ishl dX2_look_42 ?_
      refine p_iconst dX2_look_43 (by decide) ?_
      refine p_isub dX2_look_44 ?_
      refine p_istore_n (ls' := [(2, vi (w32 (((i32 1 <<< (i32 (h7 a0 5) &&& 31)).toInt) - 1))), (0, vr 2 a0 0), (1, vi x1)]) dX2_look_45 rfl (by decide) rfl ?_
      replace hf := vb_e hf
      generalize (w32 (((i32 1 <<< (i32 (h7 a0 5) &&& 31)).toInt) - 1)) = z8 at hf ⊢
      refine p_sub (ls' := [(0, vr 2 a0 0), (2, vi z8)]) [1, 0] rfl ?_
      refine t_X2_look_46 h0 ?_ NF _ _ hf
      · intro h18 hf
        refine p_aload_n dX2_look_110 rfl 0 rfl ?_
        refine p_get (c := 2) (vi (h18 a0 7)) dX2_look_111 7 tb_205 (by decide) (by decide) (Or.inl rfl) h0 rfl rfl ?_
        refine p_if_le (tgt := 121) (q := h18 a0 7 ≤ 0) dX2_look_114 (by decide) Iff.rfl (fun hc => ?_) (fun hc => ?_)
        · replace hf := Eq.mp (if_pos hc) hf
          refine p_iconst dX2_look_121 (by decide) ?_
          refine p_sub (ls' := []) [] rfl ?_
          exact t_X2_look_122 h0  _ _ hf
        · replace hf := Eq.mp (if_neg hc) hf
          refine p_iconst dX2_look_117 (by decide) ?_
          refine p_goto (tgt := 122) dX2_look_118 (by decide) ?_
          refine p_sub (ls' := []) [] rfl ?_
          exact t_X2_look_122 h0  _ _ hf
    · replace hf := Eq.mp (if_neg hc) hf
      refine p_sub (ls' := []) [] rfl ?_
      exact t_X2_look_15 h0   _ hf
theorem ok_X2_look : mOK M_X2_look 1 := ⟨tb_856, tb_8, by decide +kernel⟩
abbrev M_X2_suspectOfFirst : MD := (yX2_suspectOfFirst, cX2_suspectOfFirst, 4, some .int)
abbrev rm_X2_suspectOfFirst : Room := { frames := 0, cells := 0, slots := 0, locals := 0 }
def w_X2_suspectOfFirst_62 (K : Int → Hh → Prop) (B : Int → Int → Int → Hh → Prop) (X36 : Int → Hh → Prop) (a0 : Int) (v1 v2 v3 : Int) (h : Hh) : Prop := vb (w32 (v3 + 1)) fun z1 => B v1 v2 z1 h
set_option maxRecDepth 100000 in
set_option maxHeartbeats 4000000 in
theorem t_X2_suspectOfFirst_62 {G : Gx} {n0 : Int} {K : Int → Hh → Prop} {B : Int → Int → Int → Hh → Prop} {X36 : Int → Hh → Prop} {a0 : Int} (h0 : 0 ≤ a0) (hB : ∀ (v1 v2 v3 : Int) (h : Hh), B v1 v2 v3 h → PW G M_X2_suspectOfFirst rm_X2_suspectOfFirst 0 0 [] n0 K 4 [(0, vr 2 a0 0), (1, vi v1), (2, vi v2), (3, vi v3)] [] [] 0 0 h) (hX36 : ∀ (v3 : Int) (h : Hh), X36 v3 h → PW G M_X2_suspectOfFirst rm_X2_suspectOfFirst 0 0 [] n0 K 36 [(0, vr 2 a0 0), (3, vi v3)] [] [] 0 0 h)  (v1 v2 v3 : Int) (h : Hh) (hf : w_X2_suspectOfFirst_62 K B X36 a0 v1 v2 v3 h) : PW G M_X2_suspectOfFirst rm_X2_suspectOfFirst 0 0 [] n0 K 62 [(0, vr 2 a0 0), (1, vi v1), (2, vi v2), (3, vi v3)] [] [] 0 0 h := by
  unfold w_X2_suspectOfFirst_62 at hf
  refine p_iinc (ls' := [(3, vi (w32 (v3 + 1))), (0, vr 2 a0 0), (1, vi v1), (2, vi v2)]) dX2_suspectOfFirst_62 3 rfl (by decide) rfl ?_
  replace hf := vb_e hf
  generalize w32 (v3 + 1) = z1 at hf ⊢
  refine p_goto (tgt := 4) dX2_suspectOfFirst_65 (by decide) ?_
  refine p_sub (ls' := [(0, vr 2 a0 0), (1, vi v1), (2, vi v2), (3, vi z1)]) [1, 2, 3, 0] rfl ?_
  exact hB _ _ _ _ hf
def w_X2_suspectOfFirst_4 (K : Int → Hh → Prop) (X36 : Int → Hh → Prop) (a0 : Int) : Nat → Int → Int → Int → Hh → Prop
  | 0, _, _, _, _ => False
  | n + 1, v1, v2, v3, h => if v3 ≥ h a0 5 then (K (-1) h) else (if (i32 ((i32 (h a0 8) >>> (i32 (w32 ((w32 ((h a0 5) - 1)) - v3)) &&& 31)).toInt) &&& i32 1).toInt ≠ 1 then (w_X2_suspectOfFirst_62 K (w_X2_suspectOfFirst_4 K X36 a0 n) X36 a0 v1 v2 v3 h) else (if v2 ≠ v1 then (vb (w32 (v2 + 1)) fun z2 => w_X2_suspectOfFirst_62 K (w_X2_suspectOfFirst_4 K X36 a0 n) X36 a0 v1 z2 v3 h) else (X36 v3 h)))
set_option maxRecDepth 100000 in
set_option maxHeartbeats 4000000 in
theorem t_X2_suspectOfFirst_4 {G : Gx} {n0 : Int} {K : Int → Hh → Prop} {X36 : Int → Hh → Prop} {a0 : Int} (h0 : 0 ≤ a0) (hX36 : ∀ (v3 : Int) (h : Hh), X36 v3 h → PW G M_X2_suspectOfFirst rm_X2_suspectOfFirst 0 0 [] n0 K 36 [(0, vr 2 a0 0), (3, vi v3)] [] [] 0 0 h) : ∀ (n : Nat) (v1 v2 v3 : Int) (h : Hh), w_X2_suspectOfFirst_4 K X36 a0 n v1 v2 v3 h → PW G M_X2_suspectOfFirst rm_X2_suspectOfFirst 0 0 [] n0 K 4 [(0, vr 2 a0 0), (1, vi v1), (2, vi v2), (3, vi v3)] [] [] 0 0 h := by
  intro n
  induction n with
  | zero =>
    intro v1 v2 v3 h hf
    rw [w_X2_suspectOfFirst_4] at hf
    exact hf.elim
  | succ n ih =>
    intro v1 v2 v3 h hf
    rw [w_X2_suspectOfFirst_4] at hf
    refine p_iload_n dX2_suspectOfFirst_4 rfl 3 rfl ?_
    refine p_aload_n dX2_suspectOfFirst_5 rfl 0 rfl ?_
    refine p_get (c := 2) (vi (h a0 5)) dX2_suspectOfFirst_6 5 tb_202 (by decide) (by decide) (Or.inl rfl) h0 rfl rfl ?_
    refine p_icmp_ge (tgt := 68) (q := v3 ≥ h a0 5) dX2_suspectOfFirst_9 (by decide) Iff.rfl (fun hc => ?_) (fun hc => ?_)
    · replace hf := Eq.mp (if_pos hc) hf
      refine p_iconst dX2_suspectOfFirst_68 (by decide) ?_
      exact p_iret dX2_suspectOfFirst_69 rfl (by decide) (by decide) (fun _ h => absurd h List.not_mem_nil) hf
    · replace hf := Eq.mp (if_neg hc) hf
      refine p_aload_n dX2_suspectOfFirst_12 rfl 0 rfl ?_
      refine p_get (c := 2) (vi (h a0 8)) dX2_suspectOfFirst_13 8 tb_207 (by decide) (by decide) (Or.inl rfl) h0 rfl rfl ?_
      refine p_aload_n dX2_suspectOfFirst_16 rfl 0 rfl ?_
      refine p_get (c := 2) (vi (h a0 5)) dX2_suspectOfFirst_17 5 tb_202 (by decide) (by decide) (Or.inl rfl) h0 rfl rfl ?_
      refine p_iconst dX2_suspectOfFirst_20 (by decide) ?_
      refine p_isub dX2_suspectOfFirst_21 ?_
      refine p_iload_n dX2_suspectOfFirst_22 rfl 3 rfl ?_
      refine p_isub dX2_suspectOfFirst_23 ?_
      refine p_ishr dX2_suspectOfFirst_24 ?_
      refine p_iconst dX2_suspectOfFirst_25 (by decide) ?_
      refine p_iand dX2_suspectOfFirst_26 ?_
      refine p_iconst dX2_suspectOfFirst_27 (by decide) ?_
      refine p_icmp_ne (tgt := 62) (q := (i32 ((i32 (h a0 8) >>> (i32 (w32 ((w32 ((h a0 5) - 1)) - v3)) &&& 31)).toInt) &&& i32 1).toInt ≠ 1) dX2_suspectOfFirst_28 (by decide) Iff.rfl (fun hc => ?_) (fun hc => ?_)
      · replace hf := Eq.mp (if_pos hc) hf
        exact t_X2_suspectOfFirst_62 h0 ih hX36 _ _ _ _ hf
      · replace hf := Eq.mp (if_neg hc) hf
        refine p_iload_n dX2_suspectOfFirst_31 rfl 2 rfl ?_
        refine p_iload_n dX2_suspectOfFirst_32 rfl 1 rfl ?_
        refine p_icmp_ne (tgt := 59) (q := v2 ≠ v1) dX2_suspectOfFirst_33 (by decide) Iff.rfl (fun hc => ?_) (fun hc => ?_)
        · replace hf := Eq.mp (if_pos hc) hf
          refine p_iinc (ls' := [(2, vi (w32 (v2 + 1))), (0, vr 2 a0 0), (1, vi v1), (3, vi v3)]) dX2_suspectOfFirst_59 2 rfl (by decide) rfl ?_
          replace hf := vb_e hf
          generalize w32 (v2 + 1) = z2 at hf ⊢
          refine p_sub (ls' := [(0, vr 2 a0 0), (1, vi v1), (2, vi z2), (3, vi v3)]) [1, 2, 0, 3] rfl ?_
          exact t_X2_suspectOfFirst_62 h0 ih hX36 _ _ _ _ hf
        · replace hf := Eq.mp (if_neg hc) hf
          refine p_sub (ls' := [(0, vr 2 a0 0), (3, vi v3)]) [0, 3] rfl ?_
          exact hX36 _ _ hf
def w_X2_suspectOfFirst (a0 x1 : Int) (h : Hh) (K : Int → Hh → Prop) : Prop := w_X2_suspectOfFirst_4 K (fun u4 h3 => ((0 : Int) ≤ u4 ∧ (u4 : Int) < 12) ∧ (K (w32 ((w32 ((w32 (Int.tdiv (h3 (a0 + 4) u4) 40)) * 100)) + (Int.tmod (h3 (a0 + 4) u4) 40))) h3)) a0 NF x1 0 0 h
set_option maxRecDepth 100000 in
set_option maxHeartbeats 4000000 in
theorem t_X2_suspectOfFirst {G : Gx} (a0 x1 : Int) (h : Hh) (K : Int → Hh → Prop) (h0 : 0 ≤ a0) (hf : w_X2_suspectOfFirst a0 x1 h K) : CT G M_X2_suspectOfFirst rm_X2_suspectOfFirst 0 0 [] [vr 2 a0 0, vi x1] h K := by
  unfold w_X2_suspectOfFirst at hf
  refine CT.of (ls0 := [(0, vr 2 a0 0), (1, vi x1)]) (plainFor_of_name (by decide +kernel)) (by decide +kernel) (Nat.le_of_ble_eq_true rfl) rfl rfl ?_
  refine p_iconst dX2_suspectOfFirst_0 (by decide) ?_
  refine p_istore_n (ls' := [(2, vi 0), (0, vr 2 a0 0), (1, vi x1)]) dX2_suspectOfFirst_1 rfl (by decide) rfl ?_
  refine p_iconst dX2_suspectOfFirst_2 (by decide) ?_
  refine p_istore_n (ls' := [(3, vi 0), (2, vi 0), (0, vr 2 a0 0), (1, vi x1)]) dX2_suspectOfFirst_3 rfl (by decide) rfl ?_
  refine p_sub (ls' := [(0, vr 2 a0 0), (1, vi x1), (2, vi 0), (3, vi 0)]) [2, 3, 1, 0] rfl ?_
  refine t_X2_suspectOfFirst_4 h0 ?_ NF _ _ _ _ hf
  · intro u4 h3 hf
    refine p_aload_n dX2_suspectOfFirst_36 rfl 0 rfl ?_
    refine p_lay (c := 2) (tq := 100) (n := 12) dX2_suspectOfFirst_37 3 4 tb_200 (by decide) (by decide) h0 (by decide) (by decide) (fun _ => rfl) (vr 100 (a0 + 4) 12) rfl ?_
    refine p_iload_n dX2_suspectOfFirst_40 rfl 1 rfl ?_
    obtain ⟨c5, hf⟩ := hf
    refine p_iald dX2_suspectOfFirst_41 (nnk h0 (by decide)) c5 ?_
    refine p_bipush dX2_suspectOfFirst_42 (by decide) (by decide) ?_
    refine p_idiv dX2_suspectOfFirst_44 (by decide) ?_
    refine p_bipush dX2_suspectOfFirst_45 (by decide) (by decide) ?_
    refine p_imul dX2_suspectOfFirst_47 ?_
    refine p_aload_n dX2_suspectOfFirst_48 rfl 0 rfl ?_
    refine p_lay (c := 2) (tq := 100) (n := 12) dX2_suspectOfFirst_49 3 4 tb_200 (by decide) (by decide) h0 (by decide) (by decide) (fun _ => rfl) (vr 100 (a0 + 4) 12) rfl ?_
    refine p_iload_n dX2_suspectOfFirst_52 rfl 1 rfl ?_
    refine p_iald dX2_suspectOfFirst_53 (nnk h0 (by decide)) c5 ?_
    refine p_bipush dX2_suspectOfFirst_54 (by decide) (by decide) ?_
    refine p_irem dX2_suspectOfFirst_56 (by decide) ?_
    refine p_iadd dX2_suspectOfFirst_57 ?_
    exact p_iret dX2_suspectOfFirst_58 rfl (by decide) (by decide) (fun _ h => absurd h List.not_mem_nil) hf
theorem ok_X2_suspectOfFirst : mOK M_X2_suspectOfFirst 1 := ⟨tb_882, tb_8, by decide +kernel⟩
abbrev M_X3_init : MD := (yX3_init, cX3_init, 1, none)
abbrev rm_X3_init : Room := { frames := 1, cells := 2, slots := 8, locals := 20 }
def w_X3_init (a0 : Int) (h : Hh) (K : Int → Hh → Prop) : Prop := (h (-1) 0 = a0 + 1) ∧ (hb (nw h (fun _ => 0)) fun h2 => hb (up h2 a0 0 (a0 + 1)) fun h3 => (h3 (-1) 0 = a0 + 2) ∧ (hb (nw h3 (fun _ => 0)) fun h5 => hb (up h5 a0 1 (a0 + 2)) fun h6 => K 0 h6))
set_option maxRecDepth 100000 in
set_option maxHeartbeats 4000000 in
theorem t_X3_init {G : Gx} (a0 : Int) (h : Hh) (K : Int → Hh → Prop) (h0 : 0 ≤ a0) (hf : w_X3_init a0 h K) : CT G M_X3_init rm_X3_init 2 8 [vr 100 (a0 + 1) 4, vr 101 (a0 + 2) 4] [vr 53 a0 0] h K := by
  unfold w_X3_init at hf
  refine CT.of (ls0 := [(0, vr 53 a0 0)]) (plainFor_of_name (by decide +kernel)) (by decide +kernel) (Nat.le_of_ble_eq_true rfl) rfl rfl ?_
  refine p_aload_n dX3_init_0 rfl 0 rfl ?_
  refine p_oinit dX3_init_1 tb_175 tb_22 tb_23 (by decide) h0 (Nat.le_of_ble_eq_true rfl) ⟨by decide, by decide⟩ ?_
  refine p_aload_n dX3_init_4 rfl 0 rfl ?_
  refine p_iconst dX3_init_5 (by decide) ?_
  obtain ⟨c1, hf⟩ := hf
  refine p_newa (t := 100) (ti := 0) (ty := .int) (z := a0 + 1) dX3_init_6 rfl (Or.inl ⟨rfl, rfl⟩) rfl tb_75 (by decide) c1 ⟨by decide, by decide⟩ ?_
  replace hf := hb_e hf
  generalize nw h (fun _ => 0) = h2 at hf ⊢
  refine p_norm (kn' := [vr 100 (a0 + 1) 4]) (cells' := 1) (slots' := 4) rfl rfl rfl ?_
  refine p_putaF (c := 3) dX3_init_8 0 tb_176 (by decide) (by decide) (Or.inr rfl) h0 rfl rfl rfl rfl rfl (by decide) (fun q => absurd q (by decide)) (up h2 a0 0 (a0 + 1)) rfl ?_
  replace hf := hb_e hf
  generalize up h2 a0 0 (a0 + 1) = h3 at hf ⊢
  refine p_aload_n dX3_init_11 rfl 0 rfl ?_
  refine p_iconst dX3_init_12 (by decide) ?_
  obtain ⟨c4, hf⟩ := hf
  refine p_newa (t := 101) (ti := 1) (ty := .long) (z := a0 + 2) dX3_init_13 rfl (Or.inr (Or.inl ⟨rfl, rfl⟩)) rfl tb_169 (by decide) c4 ⟨by decide, by decide⟩ ?_
  replace hf := hb_e hf
  generalize nw h3 (fun _ => 0) = h5 at hf ⊢
  refine p_norm (kn' := [vr 101 (a0 + 2) 4, vr 100 (a0 + 1) 4]) (cells' := 2) (slots' := 8) rfl rfl rfl ?_
  refine p_putaF (c := 3) dX3_init_15 1 tb_177 (by decide) (by decide) (Or.inr rfl) h0 rfl rfl rfl rfl rfl (by decide) (fun q => absurd q (by decide)) (up h5 a0 1 (a0 + 2)) rfl ?_
  replace hf := hb_e hf
  generalize up h5 a0 1 (a0 + 2) = h6 at hf ⊢
  exact p_vret dX3_init_18 rfl (by decide) (by decide) (List.forall_mem_cons.mpr ⟨List.mem_of_getElem? (i := 1) rfl, List.forall_mem_cons.mpr ⟨List.mem_of_getElem? (i := 0) rfl, fun _ h => absurd h List.not_mem_nil⟩⟩) hf
theorem ok_X3_init : mOK M_X3_init 0 := ⟨tb_174, tb_7, by decide +kernel⟩
abbrev M_X3_greatestWidth : MD := (yX3_greatestWidth, cX3_greatestWidth, 8, some .long)
abbrev rm_X3_greatestWidth : Room := { frames := 4, cells := 0, slots := 0, locals := 100 }
def w_X3_greatestWidth_86 (K : Int → Hh → Prop) (B : Int → Int → Int → Int → Int → Hh → Prop) (X97 : Int → Int → Int → Int → Hh → Prop) (a0 : Int) (v1 v2 v3 v5 v6 s0 s1 s2 s3 s4 s4n : Int) (h : Hh) : Prop := 0 ≤ s2 ∧ (w_X7_signedOf s2 s1 s0 h (fun r6 h7 => 0 ≤ s4 ∧ (((0 : Int) ≤ s3 ∧ (s3 : Int) < s4n) ∧ (hb (up h7 s4 s3 r6) fun h10 => vb (w32 (v6 + 1)) fun z11 => B v1 v2 v3 v5 z11 h10))))
set_option maxRecDepth 100000 in
set_option maxHeartbeats 4000000 in
theorem t_X3_greatestWidth_86 {G : Gx} {n0 : Int} {K : Int → Hh → Prop} {B : Int → Int → Int → Int → Int → Hh → Prop} {X97 : Int → Int → Int → Int → Hh → Prop} {a0 : Int} (h0 : 0 ≤ a0) (hB : ∀ (v1 v2 v3 v5 v6 : Int) (h : Hh), B v1 v2 v3 v5 v6 h → PW G M_X3_greatestWidth rm_X3_greatestWidth 0 0 [] n0 K 19 [(0, vr 3 a0 0), (1, vr 0 v1 0), (2, vi v2), (3, vl v3), (5, vi v5), (6, vi v6)] [] [] 0 0 h) (hX97 : ∀ (v1 v2 v3 v5 : Int) (h : Hh), X97 v1 v2 v3 v5 h → PW G M_X3_greatestWidth rm_X3_greatestWidth 0 0 [] n0 K 97 [(0, vr 3 a0 0), (1, vr 0 v1 0), (2, vi v2), (3, vl v3), (5, vi v5)] [] [] 0 0 h)  (v1 v2 v3 v5 v6 s0 s1 s2 s3 s4 s4n : Int) (h : Hh) (hf : w_X3_greatestWidth_86 K B X97 a0 v1 v2 v3 v5 v6 s0 s1 s2 s3 s4 s4n h) : PW G M_X3_greatestWidth rm_X3_greatestWidth 0 0 [] n0 K 86 [(0, vr 3 a0 0), (1, vr 0 v1 0), (2, vi v2), (3, vl v3), (5, vi v5), (6, vi v6)] [vi s0, vi s1, vr 7 s2 0, vi s3, vr 101 s4 s4n] [] 0 0 h := by
  unfold w_X3_greatestWidth_86 at hf
  obtain ⟨c5, hf⟩ := hf
  refine p_callVNi dX3_greatestWidth_86 M_X7_signedOf (Or.inl rfl) [vi s1, vi s0] (t_X7_signedOf _ _ _ _ _ c5 hf) ok_X7_signedOf rfl (c := 7) (by decide) c5 rfl tb_701 ⟨tb_549, ts_24⟩ rfl (Nat.le_of_ble_eq_true rfl) ⟨rfl, rfl⟩ ⟨by decide, by decide⟩ ⟨by decide, by decide⟩ (fun r6 h7 hf => ?_)
  refine p_i2l dX3_greatestWidth_89 ?_
  obtain ⟨c8, hf⟩ := hf
  obtain ⟨c9, hf⟩ := hf
  refine p_last dX3_greatestWidth_90 c8 c9 ?_
  replace hf := hb_e hf
  generalize up h7 s4 s3 r6 = h10 at hf ⊢
  refine p_iinc (ls' := [(6, vi (w32 (v6 + 1))), (0, vr 3 a0 0), (1, vr 0 v1 0), (2, vi v2), (3, vl v3), (5, vi v5)]) dX3_greatestWidth_91 5 rfl (by decide) rfl ?_
  replace hf := vb_e hf
  generalize w32 (v6 + 1) = z11 at hf ⊢
  refine p_goto (tgt := 19) dX3_greatestWidth_94 (by decide) ?_
  refine p_sub (ls' := [(0, vr 3 a0 0), (1, vr 0 v1 0), (2, vi v2), (3, vl v3), (5, vi v5), (6, vi z11)]) [1, 2, 3, 4, 5, 0] rfl ?_
  exact hB _ _ _ _ _ _ hf
def w_X3_greatestWidth_44 (K : Int → Hh → Prop) (B : Int → Int → Int → Int → Int → Hh → Prop) (X97 : Int → Int → Int → Int → Hh → Prop) (a0 : Int) (v1 v2 v3 v5 v6 s0 : Int) (h : Hh) : Prop := 0 ≤ v1 ∧ (((0 : Int) ≤ v6 ∧ (v6 : Int) < 4) ∧ (if s0 = 0 then (w_X3_greatestWidth_86 K B X97 a0 v1 v2 v3 v5 v6 0 (h (a0 + 1) v6) (h v1 0) v6 (a0 + 2) 4 h) else (0 ≤ h v1 0 ∧ (w_X7_lastMarkOf (h v1 0) (h (a0 + 1) v6) h (fun r13 h14 => w_X3_greatestWidth_86 K B X97 a0 v1 v2 v3 v5 v6 r13 (h (a0 + 1) v6) (h v1 0) v6 (a0 + 2) 4 h14)))))
set_option maxRecDepth 100000 in
set_option maxHeartbeats 4000000 in
theorem t_X3_greatestWidth_44 {G : Gx} {n0 : Int} {K : Int → Hh → Prop} {B : Int → Int → Int → Int → Int → Hh → Prop} {X97 : Int → Int → Int → Int → Hh → Prop} {a0 : Int} (h0 : 0 ≤ a0) (hB : ∀ (v1 v2 v3 v5 v6 : Int) (h : Hh), B v1 v2 v3 v5 v6 h → PW G M_X3_greatestWidth rm_X3_greatestWidth 0 0 [] n0 K 19 [(0, vr 3 a0 0), (1, vr 0 v1 0), (2, vi v2), (3, vl v3), (5, vi v5), (6, vi v6)] [] [] 0 0 h) (hX97 : ∀ (v1 v2 v3 v5 : Int) (h : Hh), X97 v1 v2 v3 v5 h → PW G M_X3_greatestWidth rm_X3_greatestWidth 0 0 [] n0 K 97 [(0, vr 3 a0 0), (1, vr 0 v1 0), (2, vi v2), (3, vl v3), (5, vi v5)] [] [] 0 0 h)  (v1 v2 v3 v5 v6 s0 : Int) (h : Hh) (hf : w_X3_greatestWidth_44 K B X97 a0 v1 v2 v3 v5 v6 s0 h) : PW G M_X3_greatestWidth rm_X3_greatestWidth 0 0 [] n0 K 44 [(0, vr 3 a0 0), (1, vr 0 v1 0), (2, vi v2), (3, vl v3), (5, vi v5), (6, vi v6)] [vi s0] [] 0 0 h := by
  unfold w_X3_greatestWidth_44 at hf
  refine p_istore (ls' := [(7, vi s0), (0, vr 3 a0 0), (1, vr 0 v1 0), (2, vi v2), (3, vl v3), (5, vi v5), (6, vi v6)]) dX3_greatestWidth_44 (by decide) rfl ?_
  refine p_aload_n dX3_greatestWidth_46 rfl 1 rfl ?_
  refine p_lay (c := 3) (tq := 101) (n := 4) dX3_greatestWidth_47 1 2 tb_177 (by decide) (by decide) h0 (by decide) (by decide) (fun _ => rfl) (vr 101 (a0 + 2) 4) rfl ?_
  refine p_iload dX3_greatestWidth_50 6 rfl ?_
  refine p_aload_n dX3_greatestWidth_52 rfl 2 rfl ?_
  obtain ⟨c3, hf⟩ := hf
  refine p_getN (c := 0) (vr 7 (h v1 0) 0) dX3_greatestWidth_53 0 tb_490 (by decide) (by decide) (Or.inl rfl) c3 rfl rfl ?_
  refine p_aload_n dX3_greatestWidth_56 rfl 1 rfl ?_
  refine p_lay (c := 3) (tq := 100) (n := 4) dX3_greatestWidth_57 0 1 tb_176 (by decide) (by decide) h0 (by decide) (by decide) (fun _ => rfl) (vr 100 (a0 + 1) 4) rfl ?_
  refine p_iload dX3_greatestWidth_60 6 rfl ?_
  obtain ⟨c4, hf⟩ := hf
  refine p_iald dX3_greatestWidth_62 (nnk h0 (by decide)) c4 ?_
  refine p_iload dX3_greatestWidth_63 0 rfl ?_
  refine p_if_eq (tgt := 85) (q := s0 = 0) dX3_greatestWidth_65 (by decide) Iff.rfl (fun hc => ?_) (fun hc => ?_)
  · replace hf := Eq.mp (if_pos hc) hf
    refine p_iconst dX3_greatestWidth_85 (by decide) ?_
    refine p_sub (ls' := [(0, vr 3 a0 0), (1, vr 0 v1 0), (2, vi v2), (3, vl v3), (5, vi v5), (6, vi v6)]) [1, 2, 3, 4, 5, 6] rfl ?_
    exact t_X3_greatestWidth_86 h0 hB hX97 _ _ _ _ _ _ _ _ _ _ _ _ hf
  · replace hf := Eq.mp (if_neg hc) hf
    refine p_aload_n dX3_greatestWidth_68 rfl 2 rfl ?_
    refine p_getN (c := 0) (vr 7 (h v1 0) 0) dX3_greatestWidth_69 0 tb_490 (by decide) (by decide) (Or.inl rfl) c3 rfl rfl ?_
    refine p_aload_n dX3_greatestWidth_72 rfl 1 rfl ?_
    refine p_lay (c := 3) (tq := 100) (n := 4) dX3_greatestWidth_73 0 1 tb_176 (by decide) (by decide) h0 (by decide) (by decide) (fun _ => rfl) (vr 100 (a0 + 1) 4) rfl ?_
    refine p_iload dX3_greatestWidth_76 6 rfl ?_
    refine p_iald dX3_greatestWidth_78 (nnk h0 (by decide)) c4 ?_
    obtain ⟨c12, hf⟩ := hf
    refine p_callVNi dX3_greatestWidth_79 M_X7_lastMarkOf (Or.inl rfl) [vi (h (a0 + 1) v6)] (t_X7_lastMarkOf _ _ _ _ c12 hf) ok_X7_lastMarkOf rfl (c := 7) (by decide) c12 rfl tb_700 ⟨tb_553, ts_25⟩ rfl (Nat.le_of_ble_eq_true rfl) ⟨rfl, rfl⟩ ⟨by decide, by decide⟩ ⟨by decide, by decide⟩ (fun r13 h14 hf => ?_)
    refine p_goto (tgt := 86) dX3_greatestWidth_82 (by decide) ?_
    refine p_sub (ls' := [(0, vr 3 a0 0), (1, vr 0 v1 0), (2, vi v2), (3, vl v3), (5, vi v5), (6, vi v6)]) [1, 2, 3, 4, 5, 6] rfl ?_
    exact t_X3_greatestWidth_86 h0 hB hX97 _ _ _ _ _ _ _ _ _ _ _ _ hf
def w_X3_greatestWidth_19 (K : Int → Hh → Prop) (X97 : Int → Int → Int → Int → Hh → Prop) (a0 : Int) : Nat → Int → Int → Int → Int → Int → Hh → Prop
  | 0, _, _, _, _, _, _ => False
  | n + 1, v1, v2, v3, v5, v6, h => 0 ≤ v1 ∧ (if v6 ≥ h v1 2 then (X97 v1 v2 v3 v5 h) else (if (i32 ((i32 v5 >>> (i32 v6 &&& 31)).toInt) &&& i32 1).toInt ≠ 1 then (w_X3_greatestWidth_44 K (w_X3_greatestWidth_19 K X97 a0 n) X97 a0 v1 v2 v3 v5 v6 0 h) else (w_X3_greatestWidth_44 K (w_X3_greatestWidth_19 K X97 a0 n) X97 a0 v1 v2 v3 v5 v6 1 h)))
set_option maxRecDepth 100000 in
set_option maxHeartbeats 4000000 in
theorem t_X3_greatestWidth_19 {G : Gx} {n0 : Int} {K : Int → Hh → Prop} {X97 : Int → Int → Int → Int → Hh → Prop} {a0 : Int} (h0 : 0 ≤ a0) (hX97 : ∀ (v1 v2 v3 v5 : Int) (h : Hh), X97 v1 v2 v3 v5 h → PW G M_X3_greatestWidth rm_X3_greatestWidth 0 0 [] n0 K 97 [(0, vr 3 a0 0), (1, vr 0 v1 0), (2, vi v2), (3, vl v3), (5, vi v5)] [] [] 0 0 h) : ∀ (n : Nat) (v1 v2 v3 v5 v6 : Int) (h : Hh), w_X3_greatestWidth_19 K X97 a0 n v1 v2 v3 v5 v6 h → PW G M_X3_greatestWidth rm_X3_greatestWidth 0 0 [] n0 K 19 [(0, vr 3 a0 0), (1, vr 0 v1 0), (2, vi v2), (3, vl v3), (5, vi v5), (6, vi v6)] [] [] 0 0 h := by
  intro n
  induction n with
  | zero =>
    intro v1 v2 v3 v5 v6 h hf
    rw [w_X3_greatestWidth_19] at hf
    exact hf.elim
  | succ n ih =>
    intro v1 v2 v3 v5 v6 h hf
    rw [w_X3_greatestWidth_19] at hf
    refine p_iload dX3_greatestWidth_19 5 rfl ?_
    refine p_aload_n dX3_greatestWidth_21 rfl 1 rfl ?_
    obtain ⟨c2, hf⟩ := hf
    refine p_getN (c := 0) (vi (h v1 2)) dX3_greatestWidth_22 2 tb_495 (by decide) (by decide) (Or.inl rfl) c2 rfl rfl ?_
    refine p_icmp_ge (tgt := 97) (q := v6 ≥ h v1 2) dX3_greatestWidth_25 (by decide) Iff.rfl (fun hc => ?_) (fun hc => ?_)
    · replace hf := Eq.mp (if_pos hc) hf
      refine p_sub (ls' := [(0, vr 3 a0 0), (1, vr 0 v1 0), (2, vi v2), (3, vl v3), (5, vi v5)]) [0, 1, 2, 3, 4] rfl ?_
      exact hX97 _ _ _ _ _ hf
    · replace hf := Eq.mp (if_neg hc) hf
      refine p_iload dX3_greatestWidth_28 4 rfl ?_
      refine p_iload dX3_greatestWidth_30 5 rfl ?_
      refine p_ishr dX3_greatestWidth_32 ?_
      refine p_iconst dX3_greatestWidth_33 (by decide) ?_
      refine p_iand dX3_greatestWidth_34 ?_
      refine p_iconst dX3_greatestWidth_35 (by decide) ?_
      refine p_icmp_ne (tgt := 43) (q := (i32 ((i32 v5 >>> (i32 v6 &&& 31)).toInt) &&& i32 1).toInt ≠ 1) dX3_greatestWidth_36 (by decide) Iff.rfl (fun hc => ?_) (fun hc => ?_)
      · replace hf := Eq.mp (if_pos hc) hf
        refine p_iconst dX3_greatestWidth_43 (by decide) ?_
        exact t_X3_greatestWidth_44 h0 ih hX97 _ _ _ _ _ _ _ hf
      · replace hf := Eq.mp (if_neg hc) hf
        refine p_iconst dX3_greatestWidth_39 (by decide) ?_
        refine p_goto (tgt := 44) dX3_greatestWidth_40 (by decide) ?_
        exact t_X3_greatestWidth_44 h0 ih hX97 _ _ _ _ _ _ _ hf
def w_X3_greatestWidth_5 (K : Int → Hh → Prop) (a0 : Int) : Nat → Int → Int → Int → Int → Hh → Prop
  | 0, _, _, _, _, _ => False
  | n + 1, v1, v2, v3, v5, h => 0 ≤ v1 ∧ (if v5 ≥ (i32 1 <<< (i32 (h v1 2) &&& 31)).toInt then (K v3 h) else (w_X3_greatestWidth_19 K (fun u16 u17 u18 u19 h15 => 0 ≤ u16 ∧ (w_X0_lastSumOnFlat u16 (a0 + 2) 4 u17 h15 (fun r21 h22 => w_X0_lastSumOnFlat u16 (a0 + 2) 4 (w32 (-u17)) h22 (fun r23 h24 => vb (w64 (r21 - r23)) fun z25 => w_J9_max_f86c9 u18 z25 h24 (fun r26 h27 => vb (w32 (u19 + 1)) fun z28 => w_X3_greatestWidth_5 K  a0 n u16 u17 r26 z28 h27))))) a0 NF v1 v2 v3 v5 0 h))
set_option maxRecDepth 100000 in
set_option maxHeartbeats 4000000 in
theorem t_X3_greatestWidth_5 {G : Gx} {n0 : Int} {K : Int → Hh → Prop} {a0 : Int} (h0 : 0 ≤ a0) : ∀ (n : Nat) (v1 v2 v3 v5 : Int) (h : Hh), w_X3_greatestWidth_5 K  a0 n v1 v2 v3 v5 h → PW G M_X3_greatestWidth rm_X3_greatestWidth 0 0 [] n0 K 5 [(0, vr 3 a0 0), (1, vr 0 v1 0), (2, vi v2), (3, vl v3), (5, vi v5)] [] [] 0 0 h := by
  intro n
  induction n with
  | zero =>
    intro v1 v2 v3 v5 h hf
    rw [w_X3_greatestWidth_5] at hf
    exact hf.elim
  | succ n ih =>
    intro v1 v2 v3 v5 h hf
    rw [w_X3_greatestWidth_5] at hf
    refine p_iload dX3_greatestWidth_5 4 rfl ?_
    refine p_iconst dX3_greatestWidth_7 (by decide) ?_
    refine p_aload_n dX3_greatestWidth_8 rfl 1 rfl ?_
    obtain ⟨c1, hf⟩ := hf
    refine p_getN (c := 0) (vi (h v1 2)) dX3_greatestWidth_9 2 tb_495 (by decide) (by decide) (Or.inl rfl) c1 rfl rfl ?_
    refine p_ishl dX3_greatestWidth_12 ?_
    refine p_icmp_ge (tgt := 132) (q := v5 ≥ (i32 1 <<< (i32 (h v1 2) &&& 31)).toInt) dX3_greatestWidth_13 (by decide) Iff.rfl (fun hc => ?_) (fun hc => ?_)
    · replace hf := Eq.mp (if_pos hc) hf
      refine p_lload_n dX3_greatestWidth_132 rfl 3 rfl ?_
      exact p_lret dX3_greatestWidth_133 rfl (by decide) (by decide) (fun _ h => absurd h List.not_mem_nil) hf
    · replace hf := Eq.mp (if_neg hc) hf
      refine p_iconst dX3_greatestWidth_16 (by decide) ?_
      refine p_istore (ls' := [(6, vi 0), (0, vr 3 a0 0), (1, vr 0 v1 0), (2, vi v2), (3, vl v3), (5, vi v5)]) dX3_greatestWidth_17 (by decide) rfl ?_
      refine p_sub (ls' := [(0, vr 3 a0 0), (1, vr 0 v1 0), (2, vi v2), (3, vl v3), (5, vi v5), (6, vi 0)]) [1, 2, 3, 4, 5, 0] rfl ?_
      refine t_X3_greatestWidth_19 h0 ?_ NF _ _ _ _ _ _ hf
      · intro u16 u17 u18 u19 h15 hf
        refine p_aload_n dX3_greatestWidth_97 rfl 1 rfl ?_
        refine p_aload_n dX3_greatestWidth_98 rfl 0 rfl ?_
        refine p_lay (c := 3) (tq := 101) (n := 4) dX3_greatestWidth_99 1 2 tb_177 (by decide) (by decide) h0 (by decide) (by decide) (fun _ => rfl) (vr 101 (a0 + 2) 4) rfl ?_
        refine p_iload_n dX3_greatestWidth_102 rfl 2 rfl ?_
        obtain ⟨c20, hf⟩ := hf
        refine p_callVNl dX3_greatestWidth_103 M_X0_lastSumOnFlat rfl [vr 101 (a0 + 2) 4, vi u17] (t_X0_lastSumOnFlat _ _ _ _ _ _ c20 hf) ok_X0_lastSumOnFlat rfl (c := 0) (by decide) c20 rfl tb_702 ⟨tb_666, ts_44⟩ rfl (Nat.le_of_ble_eq_true rfl) ⟨rfl, rfl⟩ ⟨by decide, by decide⟩ ⟨by decide, by decide⟩ (fun r21 h22 hf => ?_)
        refine p_aload_n dX3_greatestWidth_106 rfl 1 rfl ?_
        refine p_aload_n dX3_greatestWidth_107 rfl 0 rfl ?_
        refine p_lay (c := 3) (tq := 101) (n := 4) dX3_greatestWidth_108 1 2 tb_177 (by decide) (by decide) h0 (by decide) (by decide) (fun _ => rfl) (vr 101 (a0 + 2) 4) rfl ?_
        refine p_iload_n dX3_greatestWidth_111 rfl 2 rfl ?_
        refine p_ineg dX3_greatestWidth_112 ?_
        refine p_callVNl dX3_greatestWidth_113 M_X0_lastSumOnFlat rfl [vr 101 (a0 + 2) 4, vi (w32 (-u17))] (t_X0_lastSumOnFlat _ _ _ _ _ _ c20 hf) ok_X0_lastSumOnFlat rfl (c := 0) (by decide) c20 rfl tb_702 ⟨tb_666, ts_44⟩ rfl (Nat.le_of_ble_eq_true rfl) ⟨rfl, rfl⟩ ⟨by decide, by decide⟩ ⟨by decide, by decide⟩ (fun r23 h24 hf => ?_)
        refine p_lsub dX3_greatestWidth_116 ?_
        refine p_lstore (ls' := [(6, vl (w64 (r21 - r23))), (0, vr 3 a0 0), (1, vr 0 u16 0), (2, vi u17), (3, vl u18), (5, vi u19)]) dX3_greatestWidth_117 (by decide) rfl ?_
        replace hf := vb_e hf
        generalize (w64 (r21 - r23)) = z25 at hf ⊢
        refine p_lload_n dX3_greatestWidth_119 rfl 4 rfl ?_
        refine p_lload dX3_greatestWidth_120 0 rfl ?_
        refine p_callSl dX3_greatestWidth_122 M_J9_max_f86c9 rfl [vl u18, vl z25] (t_J9_max_f86c9 _ _ _ _ hf) ok_J9_max_f86c9 rfl tb_703 tb_686 rfl (Nat.le_of_ble_eq_true rfl) ⟨rfl, rfl⟩ ⟨by decide, by decide⟩ ⟨by decide, by decide⟩ (fun r26 h27 hf => ?_)
        refine p_lstore_n (ls' := [(3, vl r26), (6, vl z25), (0, vr 3 a0 0), (1, vr 0 u16 0), (2, vi u17), (5, vi u19)]) dX3_greatestWidth_125 rfl (by decide) rfl ?_
        refine p_iinc (ls' := [(5, vi (w32 (u19 + 1))), (3, vl r26), (6, vl z25), (0, vr 3 a0 0), (1, vr 0 u16 0), (2, vi u17)]) dX3_greatestWidth_126 5 rfl (by decide) rfl ?_
        replace hf := vb_e hf
        generalize w32 (u19 + 1) = z28 at hf ⊢
        refine p_goto (tgt := 5) dX3_greatestWidth_129 (by decide) ?_
        refine p_sub (ls' := [(0, vr 3 a0 0), (1, vr 0 u16 0), (2, vi u17), (3, vl r26), (5, vi z28)]) [3, 4, 5, 1, 0] rfl ?_
        exact ih _ _ _ _ _ hf
def w_X3_greatestWidth (a0 x1 x2 : Int) (h : Hh) (K : Int → Hh → Prop) : Prop := w_X3_greatestWidth_5 K  a0 NF x1 x2 0 0 h
set_option maxRecDepth 100000 in
set_option maxHeartbeats 4000000 in
theorem t_X3_greatestWidth {G : Gx} (a0 x1 x2 : Int) (h : Hh) (K : Int → Hh → Prop) (h0 : 0 ≤ a0) (hf : w_X3_greatestWidth a0 x1 x2 h K) : CT G M_X3_greatestWidth rm_X3_greatestWidth 0 0 [] [vr 3 a0 0, vr 0 x1 0, vi x2] h K := by
  unfold w_X3_greatestWidth at hf
  refine CT.of (ls0 := [(0, vr 3 a0 0), (1, vr 0 x1 0), (2, vi x2)]) (plainFor_of_name (by decide +kernel)) (by decide +kernel) (Nat.le_of_ble_eq_true rfl) rfl rfl ?_
  refine p_lconst (z := 0) dX3_greatestWidth_0 rfl ?_
  refine p_lstore_n (ls' := [(3, vl 0), (0, vr 3 a0 0), (1, vr 0 x1 0), (2, vi x2)]) dX3_greatestWidth_1 rfl (by decide) rfl ?_
  refine p_iconst dX3_greatestWidth_2 (by decide) ?_
  refine p_istore (ls' := [(5, vi 0), (3, vl 0), (0, vr 3 a0 0), (1, vr 0 x1 0), (2, vi x2)]) dX3_greatestWidth_3 (by decide) rfl ?_
  refine p_sub (ls' := [(0, vr 3 a0 0), (1, vr 0 x1 0), (2, vi x2), (3, vl 0), (5, vi 0)]) [2, 3, 4, 1, 0] rfl ?_
  refine t_X3_greatestWidth_5 h0  NF _ _ _ _ _ hf
theorem ok_X3_greatestWidth : mOK M_X3_greatestWidth 2 := ⟨tb_699, tb_7, by decide +kernel⟩
abbrev M_X3_digitsOfTried : MD := (yX3_digitsOfTried, cX3_digitsOfTried, 4, some .int)
abbrev rm_X3_digitsOfTried : Room := { frames := 0, cells := 0, slots := 0, locals := 0 }
def w_X3_digitsOfTried_4 (K : Int → Hh → Prop) (a0 : Int) : Nat → Int → Int → Int → Hh → Prop
  | 0, _, _, _, _ => False
  | n + 1, v1, v2, v3, h => if v3 ≥ v1 then (K v2 h) else (((0 : Int) ≤ v3 ∧ (v3 : Int) < 4) ∧ (vb (w32 ((w32 (v2 * 10)) + (h (a0 + 1) v3))) fun z2 => vb (w32 (v3 + 1)) fun z3 => w_X3_digitsOfTried_4 K  a0 n v1 z2 z3 h))
set_option maxRecDepth 100000 in
set_option maxHeartbeats 4000000 in
theorem t_X3_digitsOfTried_4 {G : Gx} {n0 : Int} {K : Int → Hh → Prop} {a0 : Int} (h0 : 0 ≤ a0) : ∀ (n : Nat) (v1 v2 v3 : Int) (h : Hh), w_X3_digitsOfTried_4 K  a0 n v1 v2 v3 h → PW G M_X3_digitsOfTried rm_X3_digitsOfTried 0 0 [] n0 K 4 [(0, vr 3 a0 0), (1, vi v1), (2, vi v2), (3, vi v3)] [] [] 0 0 h := by
  intro n
  induction n with
  | zero =>
    intro v1 v2 v3 h hf
    rw [w_X3_digitsOfTried_4] at hf
    exact hf.elim
  | succ n ih =>
    intro v1 v2 v3 h hf
    rw [w_X3_digitsOfTried_4] at hf
    refine p_iload_n dX3_digitsOfTried_4 rfl 3 rfl ?_
    refine p_iload_n dX3_digitsOfTried_5 rfl 1 rfl ?_
    refine p_icmp_ge (tgt := 27) (q := v3 ≥ v1) dX3_digitsOfTried_6 (by decide) Iff.rfl (fun hc => ?_) (fun hc => ?_)
    · replace hf := Eq.mp (if_pos hc) hf
      refine p_iload_n dX3_digitsOfTried_27 rfl 2 rfl ?_
      exact p_iret dX3_digitsOfTried_28 rfl (by decide) (by decide) (fun _ h => absurd h List.not_mem_nil) hf
    · replace hf := Eq.mp (if_neg hc) hf
      refine p_iload_n dX3_digitsOfTried_9 rfl 2 rfl ?_
      refine p_bipush dX3_digitsOfTried_10 (by decide) (by decide) ?_
      refine p_imul dX3_digitsOfTried_12 ?_
      refine p_aload_n dX3_digitsOfTried_13 rfl 0 rfl ?_
      refine p_lay (c := 3) (tq := 100) (n := 4) dX3_digitsOfTried_14 0 1 tb_176 (by decide) (by decide) h0 (by decide) (by decide) (fun _ => rfl) (vr 100 (a0 + 1) 4) rfl ?_
      refine p_iload_n dX3_digitsOfTried_17 rfl 3 rfl ?_
      obtain ⟨c1, hf⟩ := hf
      refine p_iald dX3_digitsOfTried_18 (nnk h0 (by decide)) c1 ?_
      refine p_iadd dX3_digitsOfTried_19 ?_
      refine p_istore_n (ls' := [(2, vi (w32 ((w32 (v2 * 10)) + (h (a0 + 1) v3)))), (0, vr 3 a0 0), (1, vi v1), (3, vi v3)]) dX3_digitsOfTried_20 rfl (by decide) rfl ?_
      replace hf := vb_e hf
      generalize (w32 ((w32 (v2 * 10)) + (h (a0 + 1) v3))) = z2 at hf ⊢
      refine p_iinc (ls' := [(3, vi (w32 (v3 + 1))), (2, vi z2), (0, vr 3 a0 0), (1, vi v1)]) dX3_digitsOfTried_21 3 rfl (by decide) rfl ?_
      replace hf := vb_e hf
      generalize w32 (v3 + 1) = z3 at hf ⊢
      refine p_goto (tgt := 4) dX3_digitsOfTried_24 (by decide) ?_
      refine p_sub (ls' := [(0, vr 3 a0 0), (1, vi v1), (2, vi z2), (3, vi z3)]) [2, 3, 1, 0] rfl ?_
      exact ih _ _ _ _ hf
def w_X3_digitsOfTried (a0 x1 : Int) (h : Hh) (K : Int → Hh → Prop) : Prop := w_X3_digitsOfTried_4 K  a0 NF x1 0 0 h
set_option maxRecDepth 100000 in
set_option maxHeartbeats 4000000 in
theorem t_X3_digitsOfTried {G : Gx} (a0 x1 : Int) (h : Hh) (K : Int → Hh → Prop) (h0 : 0 ≤ a0) (hf : w_X3_digitsOfTried a0 x1 h K) : CT G M_X3_digitsOfTried rm_X3_digitsOfTried 0 0 [] [vr 3 a0 0, vi x1] h K := by
  unfold w_X3_digitsOfTried at hf
  refine CT.of (ls0 := [(0, vr 3 a0 0), (1, vi x1)]) (plainFor_of_name (by decide +kernel)) (by decide +kernel) (Nat.le_of_ble_eq_true rfl) rfl rfl ?_
  refine p_iconst dX3_digitsOfTried_0 (by decide) ?_
  refine p_istore_n (ls' := [(2, vi 0), (0, vr 3 a0 0), (1, vi x1)]) dX3_digitsOfTried_1 rfl (by decide) rfl ?_
  refine p_iconst dX3_digitsOfTried_2 (by decide) ?_
  refine p_istore_n (ls' := [(3, vi 0), (2, vi 0), (0, vr 3 a0 0), (1, vi x1)]) dX3_digitsOfTried_3 rfl (by decide) rfl ?_
  refine p_sub (ls' := [(0, vr 3 a0 0), (1, vi x1), (2, vi 0), (3, vi 0)]) [2, 3, 1, 0] rfl ?_
  refine t_X3_digitsOfTried_4 h0  NF _ _ _ _ hf
theorem ok_X3_digitsOfTried : mOK M_X3_digitsOfTried 1 := ⟨tb_707, tb_7, by decide +kernel⟩
abbrev M_X3_swap : MD := (yX3_swap, cX3_swap, 4, none)
abbrev rm_X3_swap : Room := { frames := 0, cells := 0, slots := 0, locals := 0 }
def w_X3_swap (a0 x1 x2 : Int) (h : Hh) (K : Int → Hh → Prop) : Prop := ((0 : Int) ≤ x1 ∧ (x1 : Int) < 4) ∧ (vb (h (a0 + 1) x1) fun z2 => ((0 : Int) ≤ x2 ∧ (x2 : Int) < 4) ∧ (hb (up h (a0 + 1) x1 (h (a0 + 1) x2)) fun h4 => hb (up h4 (a0 + 1) x2 z2) fun h5 => K 0 h5))
set_option maxRecDepth 100000 in
set_option maxHeartbeats 4000000 in
theorem t_X3_swap {G : Gx} (a0 x1 x2 : Int) (h : Hh) (K : Int → Hh → Prop) (h0 : 0 ≤ a0) (hf : w_X3_swap a0 x1 x2 h K) : CT G M_X3_swap rm_X3_swap 0 0 [] [vr 3 a0 0, vi x1, vi x2] h K := by
  unfold w_X3_swap at hf
  refine CT.of (ls0 := [(0, vr 3 a0 0), (1, vi x1), (2, vi x2)]) (plainFor_of_name (by decide +kernel)) (by decide +kernel) (Nat.le_of_ble_eq_true rfl) rfl rfl ?_
  refine p_aload_n dX3_swap_0 rfl 0 rfl ?_
  refine p_lay (c := 3) (tq := 100) (n := 4) dX3_swap_1 0 1 tb_176 (by decide) (by decide) h0 (by decide) (by decide) (fun _ => rfl) (vr 100 (a0 + 1) 4) rfl ?_
  refine p_iload_n dX3_swap_4 rfl 1 rfl ?_
  obtain ⟨c1, hf⟩ := hf
  refine p_iald dX3_swap_5 (nnk h0 (by decide)) c1 ?_
  refine p_istore_n (ls' := [(3, vi (h (a0 + 1) x1)), (0, vr 3 a0 0), (1, vi x1), (2, vi x2)]) dX3_swap_6 rfl (by decide) rfl ?_
  replace hf := vb_e hf
  generalize (h (a0 + 1) x1) = z2 at hf ⊢
  refine p_aload_n dX3_swap_7 rfl 1 rfl ?_
  refine p_lay (c := 3) (tq := 100) (n := 4) dX3_swap_8 0 1 tb_176 (by decide) (by decide) h0 (by decide) (by decide) (fun _ => rfl) (vr 100 (a0 + 1) 4) rfl ?_
  refine p_iload_n dX3_swap_11 rfl 2 rfl ?_
  refine p_aload_n dX3_swap_12 rfl 1 rfl ?_
  refine p_lay (c := 3) (tq := 100) (n := 4) dX3_swap_13 0 1 tb_176 (by decide) (by decide) h0 (by decide) (by decide) (fun _ => rfl) (vr 100 (a0 + 1) 4) rfl ?_
  refine p_iload_n dX3_swap_16 rfl 3 rfl ?_
  obtain ⟨c3, hf⟩ := hf
  refine p_iald dX3_swap_17 (nnk h0 (by decide)) c3 ?_
  refine p_iast dX3_swap_18 (nnk h0 (by decide)) c1 ?_
  replace hf := hb_e hf
  generalize up h (a0 + 1) x1 (h (a0 + 1) x2) = h4 at hf ⊢
  refine p_aload_n dX3_swap_19 rfl 1 rfl ?_
  refine p_lay (c := 3) (tq := 100) (n := 4) dX3_swap_20 0 1 tb_176 (by decide) (by decide) h0 (by decide) (by decide) (fun _ => rfl) (vr 100 (a0 + 1) 4) rfl ?_
  refine p_iload_n dX3_swap_23 rfl 3 rfl ?_
  refine p_iload_n dX3_swap_24 rfl 0 rfl ?_
  refine p_iast dX3_swap_25 (nnk h0 (by decide)) c3 ?_
  replace hf := hb_e hf
  generalize up h4 (a0 + 1) x2 z2 = h5 at hf ⊢
  exact p_vret dX3_swap_26 rfl (by decide) (by decide) (fun _ h => absurd h List.not_mem_nil) hf
theorem ok_X3_swap : mOK M_X3_swap 2 := ⟨tb_715, tb_7, by decide +kernel⟩
abbrev M_X3_goToNext : MD := (yX3_goToNext, cX3_goToNext, 6, some .boolean)
abbrev rm_X3_goToNext : Room := { frames := 1, cells := 0, slots := 0, locals := 23 }
def w_X3_goToNext_4 (K : Int → Hh → Prop) (X31 : Int → Int → Hh → Prop) (a0 : Int) : Nat → Int → Int → Hh → Prop
  | 0, _, _, _ => False
  | n + 1, v1, v2, h => if v2 < 0 then (X31 v1 v2 h) else (((0 : Int) ≤ v2 ∧ (v2 : Int) < 4) ∧ (((0 : Int) ≤ w32 (v2 + 1) ∧ (w32 (v2 + 1) : Int) < 4) ∧ (if h (a0 + 1) v2 ≤ h (a0 + 1) (w32 (v2 + 1)) then (X31 v1 v2 h) else (vb (w32 (v2 + (-1))) fun z4 => w_X3_goToNext_4 K X31 a0 n v1 z4 h))))
set_option maxRecDepth 100000 in
set_option maxHeartbeats 4000000 in
theorem t_X3_goToNext_4 {G : Gx} {n0 : Int} {K : Int → Hh → Prop} {X31 : Int → Int → Hh → Prop} {a0 : Int} (h0 : 0 ≤ a0) (hX31 : ∀ (v1 v2 : Int) (h : Hh), X31 v1 v2 h → PW G M_X3_goToNext rm_X3_goToNext 0 0 [] n0 K 31 [(0, vr 3 a0 0), (1, vi v1), (2, vi v2)] [] [] 0 0 h) : ∀ (n : Nat) (v1 v2 : Int) (h : Hh), w_X3_goToNext_4 K X31 a0 n v1 v2 h → PW G M_X3_goToNext rm_X3_goToNext 0 0 [] n0 K 4 [(0, vr 3 a0 0), (1, vi v1), (2, vi v2)] [] [] 0 0 h := by
  intro n
  induction n with
  | zero =>
    intro v1 v2 h hf
    rw [w_X3_goToNext_4] at hf
    exact hf.elim
  | succ n ih =>
    intro v1 v2 h hf
    rw [w_X3_goToNext_4] at hf
    refine p_iload_n dX3_goToNext_4 rfl 2 rfl ?_
    refine p_if_lt (tgt := 31) (q := v2 < 0) dX3_goToNext_5 (by decide) Iff.rfl (fun hc => ?_) (fun hc => ?_)
    · replace hf := Eq.mp (if_pos hc) hf
      exact hX31 _ _ _ hf
    · replace hf := Eq.mp (if_neg hc) hf
      refine p_aload_n dX3_goToNext_8 rfl 0 rfl ?_
      refine p_lay (c := 3) (tq := 100) (n := 4) dX3_goToNext_9 0 1 tb_176 (by decide) (by decide) h0 (by decide) (by decide) (fun _ => rfl) (vr 100 (a0 + 1) 4) rfl ?_
      refine p_iload_n dX3_goToNext_12 rfl 2 rfl ?_
      obtain ⟨c2, hf⟩ := hf
      refine p_iald dX3_goToNext_13 (nnk h0 (by decide)) c2 ?_
      refine p_aload_n dX3_goToNext_14 rfl 0 rfl ?_
      refine p_lay (c := 3) (tq := 100) (n := 4) dX3_goToNext_15 0 1 tb_176 (by decide) (by decide) h0 (by decide) (by decide) (fun _ => rfl) (vr 100 (a0 + 1) 4) rfl ?_
      refine p_iload_n dX3_goToNext_18 rfl 2 rfl ?_
      refine p_iconst dX3_goToNext_19 (by decide) ?_
      refine p_iadd dX3_goToNext_20 ?_
      obtain ⟨c3, hf⟩ := hf
      refine p_iald dX3_goToNext_21 (nnk h0 (by decide)) c3 ?_
      refine p_icmp_le (tgt := 31) (q := h (a0 + 1) v2 ≤ h (a0 + 1) (w32 (v2 + 1))) dX3_goToNext_22 (by decide) Iff.rfl (fun hc => ?_) (fun hc => ?_)
      · replace hf := Eq.mp (if_pos hc) hf
        exact hX31 _ _ _ hf
      · replace hf := Eq.mp (if_neg hc) hf
        refine p_iinc (ls' := [(2, vi (w32 (v2 + (-1)))), (0, vr 3 a0 0), (1, vi v1)]) dX3_goToNext_25 2 rfl (by decide) rfl ?_
        replace hf := vb_e hf
        generalize w32 (v2 + (-1)) = z4 at hf ⊢
        refine p_goto (tgt := 4) dX3_goToNext_28 (by decide) ?_
        refine p_sub (ls' := [(0, vr 3 a0 0), (1, vi v1), (2, vi z4)]) [1, 2, 0] rfl ?_
        exact ih _ _ _ hf
def w_X3_goToNext_41 (K : Int → Hh → Prop) (X67 : Int → Int → Int → Hh → Prop) (a0 : Int) : Nat → Int → Int → Int → Hh → Prop
  | 0, _, _, _, _ => False
  | n + 1, v1, v2, v3, h => if v3 ≤ v2 then (X67 v1 v2 v3 h) else (((0 : Int) ≤ v3 ∧ (v3 : Int) < 4) ∧ (((0 : Int) ≤ v2 ∧ (v2 : Int) < 4) ∧ (if h (a0 + 1) v3 ≥ h (a0 + 1) v2 then (X67 v1 v2 v3 h) else (vb (w32 (v3 + (-1))) fun z11 => w_X3_goToNext_41 K X67 a0 n v1 v2 z11 h))))
set_option maxRecDepth 100000 in
set_option maxHeartbeats 4000000 in
theorem t_X3_goToNext_41 {G : Gx} {n0 : Int} {K : Int → Hh → Prop} {X67 : Int → Int → Int → Hh → Prop} {a0 : Int} (h0 : 0 ≤ a0) (hX67 : ∀ (v1 v2 v3 : Int) (h : Hh), X67 v1 v2 v3 h → PW G M_X3_goToNext rm_X3_goToNext 0 0 [] n0 K 67 [(0, vr 3 a0 0), (1, vi v1), (2, vi v2), (3, vi v3)] [] [] 0 0 h) : ∀ (n : Nat) (v1 v2 v3 : Int) (h : Hh), w_X3_goToNext_41 K X67 a0 n v1 v2 v3 h → PW G M_X3_goToNext rm_X3_goToNext 0 0 [] n0 K 41 [(0, vr 3 a0 0), (1, vi v1), (2, vi v2), (3, vi v3)] [] [] 0 0 h := by
  intro n
  induction n with
  | zero =>
    intro v1 v2 v3 h hf
    rw [w_X3_goToNext_41] at hf
    exact hf.elim
  | succ n ih =>
    intro v1 v2 v3 h hf
    rw [w_X3_goToNext_41] at hf
    refine p_iload_n dX3_goToNext_41 rfl 3 rfl ?_
    refine p_iload_n dX3_goToNext_42 rfl 2 rfl ?_
    refine p_icmp_le (tgt := 67) (q := v3 ≤ v2) dX3_goToNext_43 (by decide) Iff.rfl (fun hc => ?_) (fun hc => ?_)
    · replace hf := Eq.mp (if_pos hc) hf
      exact hX67 _ _ _ _ hf
    · replace hf := Eq.mp (if_neg hc) hf
      refine p_aload_n dX3_goToNext_46 rfl 0 rfl ?_
      refine p_lay (c := 3) (tq := 100) (n := 4) dX3_goToNext_47 0 1 tb_176 (by decide) (by decide) h0 (by decide) (by decide) (fun _ => rfl) (vr 100 (a0 + 1) 4) rfl ?_
      refine p_iload_n dX3_goToNext_50 rfl 3 rfl ?_
      obtain ⟨c9, hf⟩ := hf
      refine p_iald dX3_goToNext_51 (nnk h0 (by decide)) c9 ?_
      refine p_aload_n dX3_goToNext_52 rfl 0 rfl ?_
      refine p_lay (c := 3) (tq := 100) (n := 4) dX3_goToNext_53 0 1 tb_176 (by decide) (by decide) h0 (by decide) (by decide) (fun _ => rfl) (vr 100 (a0 + 1) 4) rfl ?_
      refine p_iload_n dX3_goToNext_56 rfl 2 rfl ?_
      obtain ⟨c10, hf⟩ := hf
      refine p_iald dX3_goToNext_57 (nnk h0 (by decide)) c10 ?_
      refine p_icmp_ge (tgt := 67) (q := h (a0 + 1) v3 ≥ h (a0 + 1) v2) dX3_goToNext_58 (by decide) Iff.rfl (fun hc => ?_) (fun hc => ?_)
      · replace hf := Eq.mp (if_pos hc) hf
        exact hX67 _ _ _ _ hf
      · replace hf := Eq.mp (if_neg hc) hf
        refine p_iinc (ls' := [(3, vi (w32 (v3 + (-1)))), (0, vr 3 a0 0), (1, vi v1), (2, vi v2)]) dX3_goToNext_61 3 rfl (by decide) rfl ?_
        replace hf := vb_e hf
        generalize w32 (v3 + (-1)) = z11 at hf ⊢
        refine p_goto (tgt := 41) dX3_goToNext_64 (by decide) ?_
        refine p_sub (ls' := [(0, vr 3 a0 0), (1, vi v1), (2, vi v2), (3, vi z11)]) [1, 2, 3, 0] rfl ?_
        exact ih _ _ _ _ hf
def w_X3_goToNext_83 (K : Int → Hh → Prop) (a0 : Int) : Nat → Int → Int → Hh → Prop
  | 0, _, _, _ => False
  | n + 1, v4, v5, h => if v4 ≥ v5 then (K 1 h) else (w_X3_swap a0 v4 v5 h (fun _ h19 => vb (w32 (v4 + 1)) fun z20 => vb (w32 (v5 + (-1))) fun z21 => w_X3_goToNext_83 K  a0 n z20 z21 h19))
set_option maxRecDepth 100000 in
set_option maxHeartbeats 4000000 in
theorem t_X3_goToNext_83 {G : Gx} {n0 : Int} {K : Int → Hh → Prop} {a0 : Int} (h0 : 0 ≤ a0) : ∀ (n : Nat) (v4 v5 : Int) (h : Hh), w_X3_goToNext_83 K  a0 n v4 v5 h → PW G M_X3_goToNext rm_X3_goToNext 0 0 [] n0 K 83 [(0, vr 3 a0 0), (4, vi v4), (5, vi v5)] [] [] 0 0 h := by
  intro n
  induction n with
  | zero =>
    intro v4 v5 h hf
    rw [w_X3_goToNext_83] at hf
    exact hf.elim
  | succ n ih =>
    intro v4 v5 h hf
    rw [w_X3_goToNext_83] at hf
    refine p_iload dX3_goToNext_83 1 rfl ?_
    refine p_iload dX3_goToNext_85 2 rfl ?_
    refine p_icmp_ge (tgt := 107) (q := v4 ≥ v5) dX3_goToNext_87 (by decide) Iff.rfl (fun hc => ?_) (fun hc => ?_)
    · replace hf := Eq.mp (if_pos hc) hf
      refine p_iconst dX3_goToNext_107 (by decide) ?_
      exact p_zret dX3_goToNext_108 rfl (by decide) (by decide) (fun _ h => absurd h List.not_mem_nil) (Or.inr rfl) hf
    · replace hf := Eq.mp (if_neg hc) hf
      refine p_aload_n dX3_goToNext_90 rfl 0 rfl ?_
      refine p_iload dX3_goToNext_91 1 rfl ?_
      refine p_iload dX3_goToNext_93 2 rfl ?_
      refine p_callVv dX3_goToNext_95 M_X3_swap rfl [vi v4, vi v5] (t_X3_swap _ _ _ _ _ h0 hf) ok_X3_swap rfl (c := 3) (by decide) h0 rfl tb_712 ⟨tb_714, ts_50⟩ rfl (Nat.le_of_ble_eq_true rfl) ⟨rfl, rfl⟩ ⟨by decide, by decide⟩ ⟨by decide, by decide⟩ (fun _ h19 hf => ?_)
      refine p_iinc (ls' := [(4, vi (w32 (v4 + 1))), (0, vr 3 a0 0), (5, vi v5)]) dX3_goToNext_98 1 rfl (by decide) rfl ?_
      replace hf := vb_e hf
      generalize w32 (v4 + 1) = z20 at hf ⊢
      refine p_iinc (ls' := [(5, vi (w32 (v5 + (-1)))), (4, vi z20), (0, vr 3 a0 0)]) dX3_goToNext_101 2 rfl (by decide) rfl ?_
      replace hf := vb_e hf
      generalize w32 (v5 + (-1)) = z21 at hf ⊢
      refine p_goto (tgt := 83) dX3_goToNext_104 (by decide) ?_
      refine p_sub (ls' := [(0, vr 3 a0 0), (4, vi z20), (5, vi z21)]) [2, 1, 0] rfl ?_
      exact ih _ _ _ hf
def w_X3_goToNext_67 (K : Int → Hh → Prop) (a0 : Int) (v1 v2 v3 : Int) (h : Hh) : Prop := w_X3_swap a0 v2 v3 h (fun _ h16 => vb (w32 (v2 + 1)) fun z17 => vb (w32 (v1 - 1)) fun z18 => w_X3_goToNext_83 K  a0 NF z17 z18 h16)
set_option maxRecDepth 100000 in
set_option maxHeartbeats 4000000 in
theorem t_X3_goToNext_67 {G : Gx} {n0 : Int} {K : Int → Hh → Prop} {a0 : Int} (h0 : 0 ≤ a0)  (v1 v2 v3 : Int) (h : Hh) (hf : w_X3_goToNext_67 K  a0 v1 v2 v3 h) : PW G M_X3_goToNext rm_X3_goToNext 0 0 [] n0 K 67 [(0, vr 3 a0 0), (1, vi v1), (2, vi v2), (3, vi v3)] [] [] 0 0 h := by
  unfold w_X3_goToNext_67 at hf
  refine p_aload_n dX3_goToNext_67 rfl 0 rfl ?_
  refine p_iload_n dX3_goToNext_68 rfl 2 rfl ?_
  refine p_iload_n dX3_goToNext_69 rfl 3 rfl ?_
  refine p_callVv dX3_goToNext_70 M_X3_swap rfl [vi v2, vi v3] (t_X3_swap _ _ _ _ _ h0 hf) ok_X3_swap rfl (c := 3) (by decide) h0 rfl tb_712 ⟨tb_714, ts_50⟩ rfl (Nat.le_of_ble_eq_true rfl) ⟨rfl, rfl⟩ ⟨by decide, by decide⟩ ⟨by decide, by decide⟩ (fun _ h16 hf => ?_)
  refine p_iload_n dX3_goToNext_73 rfl 2 rfl ?_
  refine p_iconst dX3_goToNext_74 (by decide) ?_
  refine p_iadd dX3_goToNext_75 ?_
  refine p_istore (ls' := [(4, vi (w32 (v2 + 1))), (0, vr 3 a0 0), (1, vi v1), (2, vi v2), (3, vi v3)]) dX3_goToNext_76 (by decide) rfl ?_
  replace hf := vb_e hf
  generalize (w32 (v2 + 1)) = z17 at hf ⊢
  refine p_iload_n dX3_goToNext_78 rfl 2 rfl ?_
  refine p_iconst dX3_goToNext_79 (by decide) ?_
  refine p_isub dX3_goToNext_80 ?_
  refine p_istore (ls' := [(5, vi (w32 (v1 - 1))), (4, vi z17), (0, vr 3 a0 0), (1, vi v1), (2, vi v2), (3, vi v3)]) dX3_goToNext_81 (by decide) rfl ?_
  replace hf := vb_e hf
  generalize (w32 (v1 - 1)) = z18 at hf ⊢
  refine p_sub (ls' := [(0, vr 3 a0 0), (4, vi z17), (5, vi z18)]) [2, 1, 0] rfl ?_
  refine t_X3_goToNext_83 h0  NF _ _ _ hf
def w_X3_goToNext_31 (K : Int → Hh → Prop) (a0 : Int) (v1 v2 : Int) (h : Hh) : Prop := if v2 ≥ 0 then (vb (w32 (v1 - 1)) fun z8 => w_X3_goToNext_41 K (fun u13 u14 u15 h12 => w_X3_goToNext_67 K  a0 u13 u14 u15 h12) a0 NF v1 v2 z8 h) else (K 0 h)
set_option maxRecDepth 100000 in
set_option maxHeartbeats 4000000 in
theorem t_X3_goToNext_31 {G : Gx} {n0 : Int} {K : Int → Hh → Prop} {a0 : Int} (h0 : 0 ≤ a0)  (v1 v2 : Int) (h : Hh) (hf : w_X3_goToNext_31 K  a0 v1 v2 h) : PW G M_X3_goToNext rm_X3_goToNext 0 0 [] n0 K 31 [(0, vr 3 a0 0), (1, vi v1), (2, vi v2)] [] [] 0 0 h := by
  unfold w_X3_goToNext_31 at hf
  refine p_iload_n dX3_goToNext_31 rfl 2 rfl ?_
  refine p_if_ge (tgt := 37) (q := v2 ≥ 0) dX3_goToNext_32 (by decide) Iff.rfl (fun hc => ?_) (fun hc => ?_)
  · replace hf := Eq.mp (if_pos hc) hf
    refine p_iload_n dX3_goToNext_37 rfl 1 rfl ?_
    refine p_iconst dX3_goToNext_38 (by decide) ?_
    refine p_isub dX3_goToNext_39 ?_
    refine p_istore_n (ls' := [(3, vi (w32 (v1 - 1))), (0, vr 3 a0 0), (1, vi v1), (2, vi v2)]) dX3_goToNext_40 rfl (by decide) rfl ?_
    replace hf := vb_e hf
    generalize (w32 (v1 - 1)) = z8 at hf ⊢
    refine p_sub (ls' := [(0, vr 3 a0 0), (1, vi v1), (2, vi v2), (3, vi z8)]) [1, 2, 3, 0] rfl ?_
    refine t_X3_goToNext_41 h0 ?_ NF _ _ _ _ hf
    · intro u13 u14 u15 h12 hf
      exact t_X3_goToNext_67 h0  _ _ _ _ hf
  · replace hf := Eq.mp (if_neg hc) hf
    refine p_iconst dX3_goToNext_35 (by decide) ?_
    exact p_zret dX3_goToNext_36 rfl (by decide) (by decide) (fun _ h => absurd h List.not_mem_nil) (Or.inl rfl) hf
def w_X3_goToNext (a0 x1 : Int) (h : Hh) (K : Int → Hh → Prop) : Prop := vb (w32 (x1 - 2)) fun z1 => w_X3_goToNext_4 K (fun u6 u7 h5 => w_X3_goToNext_31 K  a0 u6 u7 h5) a0 NF x1 z1 h
set_option maxRecDepth 100000 in
set_option maxHeartbeats 4000000 in
theorem t_X3_goToNext {G : Gx} (a0 x1 : Int) (h : Hh) (K : Int → Hh → Prop) (h0 : 0 ≤ a0) (hf : w_X3_goToNext a0 x1 h K) : CT G M_X3_goToNext rm_X3_goToNext 0 0 [] [vr 3 a0 0, vi x1] h K := by
  unfold w_X3_goToNext at hf
  refine CT.of (ls0 := [(0, vr 3 a0 0), (1, vi x1)]) (plainFor_of_name (by decide +kernel)) (by decide +kernel) (Nat.le_of_ble_eq_true rfl) rfl rfl ?_
  refine p_iload_n dX3_goToNext_0 rfl 1 rfl ?_
  refine p_iconst dX3_goToNext_1 (by decide) ?_
  refine p_isub dX3_goToNext_2 ?_
  refine p_istore_n (ls' := [(2, vi (w32 (x1 - 2))), (0, vr 3 a0 0), (1, vi x1)]) dX3_goToNext_3 rfl (by decide) rfl ?_
  replace hf := vb_e hf
  generalize (w32 (x1 - 2)) = z1 at hf ⊢
  refine p_sub (ls' := [(0, vr 3 a0 0), (1, vi x1), (2, vi z1)]) [1, 2, 0] rfl ?_
  refine t_X3_goToNext_4 h0 ?_ NF _ _ _ hf
  · intro u6 u7 h5 hf
    exact t_X3_goToNext_31 h0  _ _ _ hf
theorem ok_X3_goToNext : mOK M_X3_goToNext 1 := ⟨tb_711, tb_7, by decide +kernel⟩
abbrev M_X3_look : MD := (yX3_look, cX3_look, 7, none)
abbrev rm_X3_look : Room := { frames := 5, cells := 0, slots := 0, locals := 127 }
def w_X3_look_2 (K : Int → Hh → Prop) (X25 : Int → Int → Hh → Prop) (a0 : Int) : Nat → Int → Int → Int → Hh → Prop
  | 0, _, _, _, _ => False
  | n + 1, v1, v2, v3, h => 0 ≤ v1 ∧ (if v3 ≥ h v1 2 then (X25 v1 v2 h) else (((0 : Int) ≤ v3 ∧ (v3 : Int) < 4) ∧ (hb (up h (a0 + 1) v3 (w32 (v3 + 1))) fun h3 => vb (w32 (v3 + 1)) fun z4 => w_X3_look_2 K X25 a0 n v1 v2 z4 h3)))
set_option maxRecDepth 100000 in
set_option maxHeartbeats 4000000 in
theorem t_X3_look_2 {G : Gx} {n0 : Int} {K : Int → Hh → Prop} {X25 : Int → Int → Hh → Prop} {a0 : Int} (h0 : 0 ≤ a0) (hX25 : ∀ (v1 v2 : Int) (h : Hh), X25 v1 v2 h → PW G M_X3_look rm_X3_look 0 0 [] n0 K 25 [(0, vr 3 a0 0), (1, vr 0 v1 0), (2, vi v2)] [] [] 0 0 h) : ∀ (n : Nat) (v1 v2 v3 : Int) (h : Hh), w_X3_look_2 K X25 a0 n v1 v2 v3 h → PW G M_X3_look rm_X3_look 0 0 [] n0 K 2 [(0, vr 3 a0 0), (1, vr 0 v1 0), (2, vi v2), (3, vi v3)] [] [] 0 0 h := by
  intro n
  induction n with
  | zero =>
    intro v1 v2 v3 h hf
    rw [w_X3_look_2] at hf
    exact hf.elim
  | succ n ih =>
    intro v1 v2 v3 h hf
    rw [w_X3_look_2] at hf
    refine p_iload_n dX3_look_2 rfl 3 rfl ?_
    refine p_aload_n dX3_look_3 rfl 1 rfl ?_
    obtain ⟨c1, hf⟩ := hf
    refine p_getN (c := 0) (vi (h v1 2)) dX3_look_4 2 tb_495 (by decide) (by decide) (Or.inl rfl) c1 rfl rfl ?_
    refine p_icmp_ge (tgt := 25) (q := v3 ≥ h v1 2) dX3_look_7 (by decide) Iff.rfl (fun hc => ?_) (fun hc => ?_)
    · replace hf := Eq.mp (if_pos hc) hf
      refine p_sub (ls' := [(0, vr 3 a0 0), (1, vr 0 v1 0), (2, vi v2)]) [0, 1, 2] rfl ?_
      exact hX25 _ _ _ hf
    · replace hf := Eq.mp (if_neg hc) hf
      refine p_aload_n dX3_look_10 rfl 0 rfl ?_
      refine p_lay (c := 3) (tq := 100) (n := 4) dX3_look_11 0 1 tb_176 (by decide) (by decide) h0 (by decide) (by decide) (fun _ => rfl) (vr 100 (a0 + 1) 4) rfl ?_
      refine p_iload_n dX3_look_14 rfl 3 rfl ?_
      refine p_iload_n dX3_look_15 rfl 3 rfl ?_
      refine p_iconst dX3_look_16 (by decide) ?_
      refine p_iadd dX3_look_17 ?_
      obtain ⟨c2, hf⟩ := hf
      refine p_iast dX3_look_18 (nnk h0 (by decide)) c2 ?_
      replace hf := hb_e hf
      generalize up h (a0 + 1) v3 (w32 (v3 + 1)) = h3 at hf ⊢
      refine p_iinc (ls' := [(3, vi (w32 (v3 + 1))), (0, vr 3 a0 0), (1, vr 0 v1 0), (2, vi v2)]) dX3_look_19 3 rfl (by decide) rfl ?_
      replace hf := vb_e hf
      generalize w32 (v3 + 1) = z4 at hf ⊢
      refine p_goto (tgt := 2) dX3_look_22 (by decide) ?_
      refine p_sub (ls' := [(0, vr 3 a0 0), (1, vr 0 v1 0), (2, vi v2), (3, vi z4)]) [1, 2, 3, 0] rfl ?_
      exact ih _ _ _ _ hf
def w_X3_look_95 (K : Int → Hh → Prop) (B : Int → Int → Int → Int → Hh → Prop) (X110 : Hh → Prop) (a0 : Int) (v1 v2 v4 : Int) (h : Hh) : Prop := 0 ≤ v1 ∧ (w_X3_goToNext a0 (h v1 2) h (fun r18 h19 => vb (w32 (v4 + 1)) fun z20 => B v1 v2 r18 z20 h19))
set_option maxRecDepth 100000 in
set_option maxHeartbeats 4000000 in
theorem t_X3_look_95 {G : Gx} {n0 : Int} {K : Int → Hh → Prop} {B : Int → Int → Int → Int → Hh → Prop} {X110 : Hh → Prop} {a0 : Int} (h0 : 0 ≤ a0) (hB : ∀ (v1 v2 v3 v4 : Int) (h : Hh), B v1 v2 v3 v4 h → PW G M_X3_look rm_X3_look 0 0 [] n0 K 40 [(0, vr 3 a0 0), (1, vr 0 v1 0), (2, vi v2), (3, vi v3), (4, vi v4)] [] [] 0 0 h) (hX110 : ∀ (h : Hh), X110  h → PW G M_X3_look rm_X3_look 0 0 [] n0 K 110 [] [] [] 0 0 h)  (v1 v2 v4 : Int) (h : Hh) (hf : w_X3_look_95 K B X110 a0 v1 v2 v4 h) : PW G M_X3_look rm_X3_look 0 0 [] n0 K 95 [(0, vr 3 a0 0), (1, vr 0 v1 0), (2, vi v2), (4, vi v4)] [] [] 0 0 h := by
  unfold w_X3_look_95 at hf
  refine p_aload_n dX3_look_95 rfl 0 rfl ?_
  refine p_aload_n dX3_look_96 rfl 1 rfl ?_
  obtain ⟨c17, hf⟩ := hf
  refine p_getN (c := 0) (vi (h v1 2)) dX3_look_97 2 tb_495 (by decide) (by decide) (Or.inl rfl) c17 rfl rfl ?_
  refine p_callVi dX3_look_100 M_X3_goToNext (Or.inr rfl) [vi (h v1 2)] (t_X3_goToNext _ _ _ _ h0 hf) ok_X3_goToNext rfl (c := 3) (by decide) h0 rfl tb_708 ⟨tb_710, ts_49⟩ rfl (Nat.le_of_ble_eq_true rfl) ⟨rfl, rfl⟩ ⟨by decide, by decide⟩ ⟨by decide, by decide⟩ (fun r18 h19 hf => ?_)
  refine p_istore_n (ls' := [(3, vi r18), (0, vr 3 a0 0), (1, vr 0 v1 0), (2, vi v2), (4, vi v4)]) dX3_look_103 rfl (by decide) rfl ?_
  refine p_iinc (ls' := [(4, vi (w32 (v4 + 1))), (3, vi r18), (0, vr 3 a0 0), (1, vr 0 v1 0), (2, vi v2)]) dX3_look_104 4 rfl (by decide) rfl ?_
  replace hf := vb_e hf
  generalize w32 (v4 + 1) = z20 at hf ⊢
  refine p_goto (tgt := 40) dX3_look_107 (by decide) ?_
  refine p_sub (ls' := [(0, vr 3 a0 0), (1, vr 0 v1 0), (2, vi v2), (3, vi r18), (4, vi z20)]) [2, 3, 4, 1, 0] rfl ?_
  exact hB _ _ _ _ _ hf
def w_X3_look_77 (K : Int → Hh → Prop) (B : Int → Int → Int → Int → Hh → Prop) (X110 : Hh → Prop) (a0 : Int) (v1 v2 v4 v5 : Int) (h : Hh) : Prop := 0 ≤ v1 ∧ (w_X3_digitsOfTried a0 (h v1 2) h (fun r13 h14 => hb (up h14 a0 2 r13) fun h15 => hb (up h15 a0 3 v5) fun h16 => w_X3_look_95 K B X110 a0 v1 v2 v4 h16))
set_option maxRecDepth 100000 in
set_option maxHeartbeats 4000000 in
theorem t_X3_look_77 {G : Gx} {n0 : Int} {K : Int → Hh → Prop} {B : Int → Int → Int → Int → Hh → Prop} {X110 : Hh → Prop} {a0 : Int} (h0 : 0 ≤ a0) (hB : ∀ (v1 v2 v3 v4 : Int) (h : Hh), B v1 v2 v3 v4 h → PW G M_X3_look rm_X3_look 0 0 [] n0 K 40 [(0, vr 3 a0 0), (1, vr 0 v1 0), (2, vi v2), (3, vi v3), (4, vi v4)] [] [] 0 0 h) (hX110 : ∀ (h : Hh), X110  h → PW G M_X3_look rm_X3_look 0 0 [] n0 K 110 [] [] [] 0 0 h)  (v1 v2 v4 v5 : Int) (h : Hh) (hf : w_X3_look_77 K B X110 a0 v1 v2 v4 v5 h) : PW G M_X3_look rm_X3_look 0 0 [] n0 K 77 [(0, vr 3 a0 0), (1, vr 0 v1 0), (2, vi v2), (4, vi v4), (5, vl v5)] [] [] 0 0 h := by
  unfold w_X3_look_77 at hf
  refine p_aload_n dX3_look_77 rfl 0 rfl ?_
  refine p_aload_n dX3_look_78 rfl 0 rfl ?_
  refine p_aload_n dX3_look_79 rfl 1 rfl ?_
  obtain ⟨c12, hf⟩ := hf
  refine p_getN (c := 0) (vi (h v1 2)) dX3_look_80 2 tb_495 (by decide) (by decide) (Or.inl rfl) c12 rfl rfl ?_
  refine p_callVi dX3_look_83 M_X3_digitsOfTried (Or.inl rfl) [vi (h v1 2)] (t_X3_digitsOfTried _ _ _ _ h0 hf) ok_X3_digitsOfTried rfl (c := 3) (by decide) h0 rfl tb_704 ⟨tb_706, ts_48⟩ rfl (Nat.le_of_ble_eq_true rfl) ⟨rfl, rfl⟩ ⟨by decide, by decide⟩ ⟨by decide, by decide⟩ (fun r13 h14 hf => ?_)
  refine p_puti (c := 3) dX3_look_86 2 tb_178 (by decide) (by decide) (Or.inl rfl) h0 rfl rfl (fun _ => by decide) (up h14 a0 2 r13) rfl ?_
  replace hf := hb_e hf
  generalize up h14 a0 2 r13 = h15 at hf ⊢
  refine p_aload_n dX3_look_89 rfl 0 rfl ?_
  refine p_lload dX3_look_90 4 rfl ?_
  refine p_putl (c := 3) dX3_look_92 3 tb_180 (by decide) (by decide) (Or.inl rfl) h0 rfl rfl (fun _ => by decide) (up h15 a0 3 v5) rfl ?_
  replace hf := hb_e hf
  generalize up h15 a0 3 v5 = h16 at hf ⊢
  refine p_sub (ls' := [(0, vr 3 a0 0), (1, vr 0 v1 0), (2, vi v2), (4, vi v4)]) [0, 1, 2, 3] rfl ?_
  exact t_X3_look_95 h0 hB hX110 _ _ _ _ hf
def w_X3_look_40 (K : Int → Hh → Prop) (X110 : Hh → Prop) (a0 : Int) : Nat → Int → Int → Int → Int → Hh → Prop
  | 0, _, _, _, _, _ => False
  | n + 1, v1, v2, v3, v4, h => if v4 ≥ 24 then (X110  h) else (if v3 = 0 then (X110  h) else (w_X3_greatestWidth a0 v1 v2 h (fun r10 h11 => if h11 a0 2 = (-1) then (w_X3_look_77 K (w_X3_look_40 K X110 a0 n) X110 a0 v1 v2 v4 r10 h11) else (if r10 ≥ h11 a0 3 then (w_X3_look_95 K (w_X3_look_40 K X110 a0 n) X110 a0 v1 v2 v4 h11) else (w_X3_look_77 K (w_X3_look_40 K X110 a0 n) X110 a0 v1 v2 v4 r10 h11)))))
set_option maxRecDepth 100000 in
set_option maxHeartbeats 4000000 in
theorem t_X3_look_40 {G : Gx} {n0 : Int} {K : Int → Hh → Prop} {X110 : Hh → Prop} {a0 : Int} (h0 : 0 ≤ a0) (hX110 : ∀ (h : Hh), X110  h → PW G M_X3_look rm_X3_look 0 0 [] n0 K 110 [] [] [] 0 0 h) : ∀ (n : Nat) (v1 v2 v3 v4 : Int) (h : Hh), w_X3_look_40 K X110 a0 n v1 v2 v3 v4 h → PW G M_X3_look rm_X3_look 0 0 [] n0 K 40 [(0, vr 3 a0 0), (1, vr 0 v1 0), (2, vi v2), (3, vi v3), (4, vi v4)] [] [] 0 0 h := by
  intro n
  induction n with
  | zero =>
    intro v1 v2 v3 v4 h hf
    rw [w_X3_look_40] at hf
    exact hf.elim
  | succ n ih =>
    intro v1 v2 v3 v4 h hf
    rw [w_X3_look_40] at hf
    refine p_iload dX3_look_40 4 rfl ?_
    refine p_bipush dX3_look_42 (by decide) (by decide) ?_
    refine p_icmp_ge (tgt := 110) (q := v4 ≥ 24) dX3_look_44 (by decide) Iff.rfl (fun hc => ?_) (fun hc => ?_)
    · replace hf := Eq.mp (if_pos hc) hf
      refine p_sub (ls' := []) [] rfl ?_
      exact hX110  _ hf
    · replace hf := Eq.mp (if_neg hc) hf
      refine p_iload_n dX3_look_47 rfl 3 rfl ?_
      refine p_if_eq (tgt := 110) (q := v3 = 0) dX3_look_48 (by decide) Iff.rfl (fun hc => ?_) (fun hc => ?_)
      · replace hf := Eq.mp (if_pos hc) hf
        refine p_sub (ls' := []) [] rfl ?_
        exact hX110  _ hf
      · replace hf := Eq.mp (if_neg hc) hf
        refine p_aload_n dX3_look_51 rfl 0 rfl ?_
        refine p_aload_n dX3_look_52 rfl 1 rfl ?_
        refine p_iload_n dX3_look_53 rfl 2 rfl ?_
        refine p_callVl dX3_look_54 M_X3_greatestWidth rfl [vr 0 v1 0, vi v2] (t_X3_greatestWidth _ _ _ _ _ h0 hf) ok_X3_greatestWidth rfl (c := 3) (by decide) h0 rfl tb_696 ⟨tb_698, ts_47⟩ rfl (Nat.le_of_ble_eq_true rfl) ⟨rfl, rfl⟩ ⟨by decide, by decide⟩ ⟨by decide, by decide⟩ (fun r10 h11 hf => ?_)
        refine p_lstore (ls' := [(5, vl r10), (0, vr 3 a0 0), (1, vr 0 v1 0), (2, vi v2), (3, vi v3), (4, vi v4)]) dX3_look_57 (by decide) rfl ?_
        refine p_aload_n dX3_look_59 rfl 1 rfl ?_
        refine p_get (c := 3) (vi (h11 a0 2)) dX3_look_60 2 tb_178 (by decide) (by decide) (Or.inl rfl) h0 rfl rfl ?_
        refine p_iconst dX3_look_63 (by decide) ?_
        refine p_icmp_eq (tgt := 77) (q := h11 a0 2 = (-1)) dX3_look_64 (by decide) Iff.rfl (fun hc => ?_) (fun hc => ?_)
        · replace hf := Eq.mp (if_pos hc) hf
          refine p_sub (ls' := [(0, vr 3 a0 0), (1, vr 0 v1 0), (2, vi v2), (4, vi v4), (5, vl r10)]) [1, 2, 3, 5, 0] rfl ?_
          exact t_X3_look_77 h0 ih hX110 _ _ _ _ _ hf
        · replace hf := Eq.mp (if_neg hc) hf
          refine p_lload dX3_look_67 0 rfl ?_
          refine p_aload_n dX3_look_69 rfl 1 rfl ?_
          refine p_get (c := 3) (vl (h11 a0 3)) dX3_look_70 3 tb_180 (by decide) (by decide) (Or.inl rfl) h0 rfl rfl ?_
          refine p_lcmp (z := (if r10 < h11 a0 3 then (-1) else if r10 = h11 a0 3 then 0 else 1)) dX3_look_73 rfl ?_
          refine p_if_ge (tgt := 95) (q := r10 ≥ h11 a0 3) dX3_look_74 (by decide) (lc_ge r10 (h11 a0 3)) (fun hc => ?_) (fun hc => ?_)
          · replace hf := Eq.mp (if_pos hc) hf
            refine p_sub (ls' := [(0, vr 3 a0 0), (1, vr 0 v1 0), (2, vi v2), (4, vi v4)]) [1, 2, 3, 5] rfl ?_
            exact t_X3_look_95 h0 ih hX110 _ _ _ _ hf
          · replace hf := Eq.mp (if_neg hc) hf
            refine p_sub (ls' := [(0, vr 3 a0 0), (1, vr 0 v1 0), (2, vi v2), (4, vi v4), (5, vl r10)]) [1, 2, 3, 5, 0] rfl ?_
            exact t_X3_look_77 h0 ih hX110 _ _ _ _ _ hf
def w_X3_look_110 (K : Int → Hh → Prop) (a0 : Int) (h : Hh) : Prop := K 0 h
set_option maxRecDepth 100000 in
set_option maxHeartbeats 4000000 in
theorem t_X3_look_110 {G : Gx} {n0 : Int} {K : Int → Hh → Prop} {a0 : Int} (h0 : 0 ≤ a0)  (h : Hh) (hf : w_X3_look_110 K  a0  h) : PW G M_X3_look rm_X3_look 0 0 [] n0 K 110 [] [] [] 0 0 h := by
  unfold w_X3_look_110 at hf
  exact p_vret dX3_look_110 rfl (by decide) (by decide) (fun _ h => absurd h List.not_mem_nil) hf
def w_X3_look (a0 x1 x2 : Int) (h : Hh) (K : Int → Hh → Prop) : Prop := w_X3_look_2 K (fun u6 u7 h5 => hb (up h5 a0 2 (-1)) fun h8 => hb (up h8 a0 3 0) fun h9 => w_X3_look_40 K (fun h21 => w_X3_look_110 K  a0  h21) a0 NF u6 u7 1 0 h9) a0 NF x1 x2 0 h
set_option maxRecDepth 100000 in
set_option maxHeartbeats 4000000 in
theorem t_X3_look {G : Gx} (a0 x1 x2 : Int) (h : Hh) (K : Int → Hh → Prop) (h0 : 0 ≤ a0) (hf : w_X3_look a0 x1 x2 h K) : CT G M_X3_look rm_X3_look 0 0 [] [vr 3 a0 0, vr 0 x1 0, vi x2] h K := by
  unfold w_X3_look at hf
  refine CT.of (ls0 := [(0, vr 3 a0 0), (1, vr 0 x1 0), (2, vi x2)]) (plainFor_of_name (by decide +kernel)) (by decide +kernel) (Nat.le_of_ble_eq_true rfl) rfl rfl ?_
  refine p_iconst dX3_look_0 (by decide) ?_
  refine p_istore_n (ls' := [(3, vi 0), (0, vr 3 a0 0), (1, vr 0 x1 0), (2, vi x2)]) dX3_look_1 rfl (by decide) rfl ?_
  refine p_sub (ls' := [(0, vr 3 a0 0), (1, vr 0 x1 0), (2, vi x2), (3, vi 0)]) [1, 2, 3, 0] rfl ?_
  refine t_X3_look_2 h0 ?_ NF _ _ _ _ hf
  · intro u6 u7 h5 hf
    refine p_aload_n dX3_look_25 rfl 0 rfl ?_
    refine p_iconst dX3_look_26 (by decide) ?_
    refine p_puti (c := 3) dX3_look_27 2 tb_178 (by decide) (by decide) (Or.inl rfl) h0 rfl rfl (fun _ => by decide) (up h5 a0 2 (-1)) rfl ?_
    replace hf := hb_e hf
    generalize up h5 a0 2 (-1) = h8 at hf ⊢
    refine p_aload_n dX3_look_30 rfl 0 rfl ?_
    refine p_lconst (z := 0) dX3_look_31 rfl ?_
    refine p_putl (c := 3) dX3_look_32 3 tb_180 (by decide) (by decide) (Or.inl rfl) h0 rfl rfl (fun _ => by decide) (up h8 a0 3 0) rfl ?_
    replace hf := hb_e hf
    generalize up h8 a0 3 0 = h9 at hf ⊢
    refine p_iconst dX3_look_35 (by decide) ?_
    refine p_istore_n (ls' := [(3, vi 1), (0, vr 3 a0 0), (1, vr 0 u6 0), (2, vi u7)]) dX3_look_36 rfl (by decide) rfl ?_
    refine p_iconst dX3_look_37 (by decide) ?_
    refine p_istore (ls' := [(4, vi 0), (3, vi 1), (0, vr 3 a0 0), (1, vr 0 u6 0), (2, vi u7)]) dX3_look_38 (by decide) rfl ?_
    refine p_sub (ls' := [(0, vr 3 a0 0), (1, vr 0 u6 0), (2, vi u7), (3, vi 1), (4, vi 0)]) [2, 3, 4, 1, 0] rfl ?_
    refine t_X3_look_40 h0 ?_ NF _ _ _ _ _ hf
    · intro h21 hf
      exact t_X3_look_110 h0   _ hf
theorem ok_X3_look : mOK M_X3_look 2 := ⟨tb_695, tb_7, by decide +kernel⟩
