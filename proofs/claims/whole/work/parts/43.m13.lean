abbrev M_X11_page : MD := (yX11_page, cX11_page, 4, some .int)
abbrev rm_X11_page : Room := { frames := 3, cells := 0, slots := 0, locals := 86 }
def w_X11_page_35 (K : Int → Hh → Prop) (a0 : Int) (h : Hh) : Prop := K (-1) h
set_option maxRecDepth 100000 in
set_option maxHeartbeats 4000000 in
theorem t_X11_page_35 {G : Gx} {n0 : Int} {K : Int → Hh → Prop} {a0 : Int} (h0 : 0 ≤ a0)  (h : Hh) (hf : w_X11_page_35 K  a0  h) : PW G M_X11_page rm_X11_page 0 0 [] n0 K 35 [] [] [] 0 0 h := by
  unfold w_X11_page_35 at hf
  refine p_iconst dX11_page_35 (by decide) ?_
  exact p_iret dX11_page_36 rfl (by decide) (by decide) (fun _ h => absurd h List.not_mem_nil) hf
def w_X11_page_79 (K : Int → Hh → Prop) (a0 : Int) (s0 : Int) (h : Hh) : Prop := K s0 h
set_option maxRecDepth 100000 in
set_option maxHeartbeats 4000000 in
theorem t_X11_page_79 {G : Gx} {n0 : Int} {K : Int → Hh → Prop} {a0 : Int} (h0 : 0 ≤ a0)  (s0 : Int) (h : Hh) (hf : w_X11_page_79 K  a0 s0 h) : PW G M_X11_page rm_X11_page 0 0 [] n0 K 79 [] [vi s0] [] 0 0 h := by
  unfold w_X11_page_79 at hf
  exact p_iret dX11_page_79 rfl (by decide) (by decide) (fun _ h => absurd h List.not_mem_nil) hf
def w_X11_page (a0 x1 x2 x3 : Int) (h : Hh) (K : Int → Hh → Prop) : Prop := w_X11_isChart a0 x1 h (fun r1 h2 => if r1 = 0 then (w_X11_page_35 K  a0  h2) else (w_X11_pagesOf a0 x1 h2 (fun r3 h4 => w_X11_in x2 0 (w32 (r3 - 1)) h4 (fun r5 h6 => if r5 = 0 then (w_X11_page_35 K  a0  h6) else (w_X11_in x3 0 1 h6 (fun r7 h8 => if r7 ≠ 0 then (if x3 ≠ 0 then (((0 : Int) ≤ w32 ((w32 (3 * x1)) + x2) ∧ (w32 ((w32 (3 * x1)) + x2) : Int) < 18) ∧ (w_X11_tall a0 x1 x2 (h8 (a0 + 14) (w32 ((w32 (3 * x1)) + x2))) (h8 (a0 + 15) (w32 ((w32 (3 * x1)) + x2))) h8 (fun r10 h11 => w_X11_page_79 K  a0 (w32 r10) h11))) else (w_X11_mid a0 x1 x2 h8 (fun r12 h13 => w_X11_page_79 K  a0 r12 h13))) else (w_X11_page_35 K  a0  h8)))))))
set_option maxRecDepth 100000 in
set_option maxHeartbeats 4000000 in
theorem t_X11_page {G : Gx} (a0 x1 x2 x3 : Int) (h : Hh) (K : Int → Hh → Prop) (h0 : 0 ≤ a0) (hf : w_X11_page a0 x1 x2 x3 h K) : CT G M_X11_page rm_X11_page 0 0 [] [vr 11 a0 0, vi x1, vi x2, vi x3] h K := by
  unfold w_X11_page at hf
  refine CT.of (ls0 := [(0, vr 11 a0 0), (1, vi x1), (2, vi x2), (3, vi x3)]) (plainFor_of_name (by decide +kernel)) (by decide +kernel) (Nat.le_of_ble_eq_true rfl) rfl rfl ?_
  refine p_aload_n dX11_page_0 rfl 0 rfl ?_
  refine p_iload_n dX11_page_1 rfl 1 rfl ?_
  refine p_callVi dX11_page_2 M_X11_isChart (Or.inr rfl) [vi x1] (t_X11_isChart _ _ _ _ h0 hf) ok_X11_isChart rfl (c := 11) (by decide) h0 rfl tb_1165 ⟨tb_1167, ts_81⟩ rfl (Nat.le_of_ble_eq_true rfl) ⟨rfl, rfl⟩ ⟨by decide, by decide⟩ ⟨by decide, by decide⟩ (fun r1 h2 hf => ?_)
  refine p_if_eq (tgt := 35) (q := r1 = 0) dX11_page_5 (by decide) Iff.rfl (fun hc => ?_) (fun hc => ?_)
  · replace hf := Eq.mp (if_pos hc) hf
    refine p_sub (ls' := []) [] rfl ?_
    exact t_X11_page_35 h0   _ hf
  · replace hf := Eq.mp (if_neg hc) hf
    refine p_iload_n dX11_page_8 rfl 2 rfl ?_
    refine p_i2l dX11_page_9 ?_
    refine p_lconst (z := 0) dX11_page_10 rfl ?_
    refine p_aload_n dX11_page_11 rfl 0 rfl ?_
    refine p_iload_n dX11_page_12 rfl 1 rfl ?_
    refine p_callVi dX11_page_13 M_X11_pagesOf (Or.inl rfl) [vi x1] (t_X11_pagesOf _ _ _ _ h0 hf) ok_X11_pagesOf rfl (c := 11) (by decide) h0 rfl tb_1211 ⟨tb_1213, ts_87⟩ rfl (Nat.le_of_ble_eq_true rfl) ⟨rfl, rfl⟩ ⟨by decide, by decide⟩ ⟨by decide, by decide⟩ (fun r3 h4 hf => ?_)
    refine p_iconst dX11_page_16 (by decide) ?_
    refine p_isub dX11_page_17 ?_
    refine p_i2l dX11_page_18 ?_
    refine p_callSi dX11_page_19 M_X11_in (Or.inr rfl) [vl x2, vl 0, vl (w32 (r3 - 1))] (t_X11_in _ _ _ _ _ hf) ok_X11_in rfl tb_1079 tb_1080 rfl (Nat.le_of_ble_eq_true rfl) ⟨rfl, rfl⟩ ⟨by decide, by decide⟩ ⟨by decide, by decide⟩ (fun r5 h6 hf => ?_)
    refine p_if_eq (tgt := 35) (q := r5 = 0) dX11_page_22 (by decide) Iff.rfl (fun hc => ?_) (fun hc => ?_)
    · replace hf := Eq.mp (if_pos hc) hf
      refine p_sub (ls' := []) [] rfl ?_
      exact t_X11_page_35 h0   _ hf
    · replace hf := Eq.mp (if_neg hc) hf
      refine p_iload_n dX11_page_25 rfl 3 rfl ?_
      refine p_i2l dX11_page_26 ?_
      refine p_lconst (z := 0) dX11_page_27 rfl ?_
      refine p_lconst (z := 1) dX11_page_28 rfl ?_
      refine p_callSi dX11_page_29 M_X11_in (Or.inr rfl) [vl x3, vl 0, vl 1] (t_X11_in _ _ _ _ _ hf) ok_X11_in rfl tb_1079 tb_1080 rfl (Nat.le_of_ble_eq_true rfl) ⟨rfl, rfl⟩ ⟨by decide, by decide⟩ ⟨by decide, by decide⟩ (fun r7 h8 hf => ?_)
      refine p_if_ne (tgt := 37) (q := r7 ≠ 0) dX11_page_32 (by decide) Iff.rfl (fun hc => ?_) (fun hc => ?_)
      · replace hf := Eq.mp (if_pos hc) hf
        refine p_iload_n dX11_page_37 rfl 3 rfl ?_
        refine p_if_ne (tgt := 50) (q := x3 ≠ 0) dX11_page_38 (by decide) Iff.rfl (fun hc => ?_) (fun hc => ?_)
        · replace hf := Eq.mp (if_pos hc) hf
          refine p_aload_n dX11_page_50 rfl 0 rfl ?_
          refine p_iload_n dX11_page_51 rfl 1 rfl ?_
          refine p_iload_n dX11_page_52 rfl 2 rfl ?_
          refine p_aload_n dX11_page_53 rfl 0 rfl ?_
          refine p_lay (c := 11) (tq := 100) (n := 18) dX11_page_54 22 14 tb_915 (by decide) (by decide) h0 (by decide) (by decide) (fun _ => rfl) (vr 100 (a0 + 14) 18) rfl ?_
          refine p_iconst dX11_page_57 (by decide) ?_
          refine p_iload_n dX11_page_58 rfl 1 rfl ?_
          refine p_imul dX11_page_59 ?_
          refine p_iload_n dX11_page_60 rfl 2 rfl ?_
          refine p_iadd dX11_page_61 ?_
          obtain ⟨c9, hf⟩ := hf
          refine p_iald dX11_page_62 (nnk h0 (by decide)) c9 ?_
          refine p_i2l dX11_page_63 ?_
          refine p_aload_n dX11_page_64 rfl 0 rfl ?_
          refine p_lay (c := 11) (tq := 100) (n := 18) dX11_page_65 23 15 tb_916 (by decide) (by decide) h0 (by decide) (by decide) (fun _ => rfl) (vr 100 (a0 + 15) 18) rfl ?_
          refine p_iconst dX11_page_68 (by decide) ?_
          refine p_iload_n dX11_page_69 rfl 1 rfl ?_
          refine p_imul dX11_page_70 ?_
          refine p_iload_n dX11_page_71 rfl 2 rfl ?_
          refine p_iadd dX11_page_72 ?_
          refine p_iald dX11_page_73 (nnk h0 (by decide)) c9 ?_
          refine p_i2l dX11_page_74 ?_
          refine p_callVl dX11_page_75 M_X11_tall rfl [vi x1, vi x2, vl (h8 (a0 + 14) (w32 ((w32 (3 * x1)) + x2))), vl (h8 (a0 + 15) (w32 ((w32 (3 * x1)) + x2)))] (t_X11_tall _ _ _ _ _ _ _ h0 hf) ok_X11_tall rfl (c := 11) (by decide) h0 rfl tb_1256 ⟨tb_1258, ts_94⟩ rfl (Nat.le_of_ble_eq_true rfl) ⟨rfl, rfl⟩ ⟨by decide, by decide⟩ ⟨by decide, by decide⟩ (fun r10 h11 hf => ?_)
          refine p_l2i dX11_page_78 ?_
          refine p_sub (ls' := []) [] rfl ?_
          exact t_X11_page_79 h0  _ _ hf
        · replace hf := Eq.mp (if_neg hc) hf
          refine p_aload_n dX11_page_41 rfl 0 rfl ?_
          refine p_iload_n dX11_page_42 rfl 1 rfl ?_
          refine p_iload_n dX11_page_43 rfl 2 rfl ?_
          refine p_callVi dX11_page_44 M_X11_mid (Or.inl rfl) [vi x1, vi x2] (t_X11_mid _ _ _ _ _ h0 hf) ok_X11_mid rfl (c := 11) (by decide) h0 rfl tb_1215 ⟨tb_1217, ts_88⟩ rfl (Nat.le_of_ble_eq_true rfl) ⟨rfl, rfl⟩ ⟨by decide, by decide⟩ ⟨by decide, by decide⟩ (fun r12 h13 hf => ?_)
          refine p_goto (tgt := 79) dX11_page_47 (by decide) ?_
          refine p_sub (ls' := []) [] rfl ?_
          exact t_X11_page_79 h0  _ _ hf
      · replace hf := Eq.mp (if_neg hc) hf
        refine p_sub (ls' := []) [] rfl ?_
        exact t_X11_page_35 h0   _ hf
theorem ok_X11_page : mOK M_X11_page 3 := ⟨tb_1255, tb_9, by decide +kernel⟩
abbrev M_X11_list : MD := (yX11_list, cX11_list, 3, some .int)
abbrev rm_X11_list : Room := { frames := 1, cells := 0, slots := 0, locals := 25 }
def w_X11_list_20 (K : Int → Hh → Prop) (a0 : Int) (h : Hh) : Prop := K (-1) h
set_option maxRecDepth 100000 in
set_option maxHeartbeats 4000000 in
theorem t_X11_list_20 {G : Gx} {n0 : Int} {K : Int → Hh → Prop} {a0 : Int} (h0 : 0 ≤ a0)  (h : Hh) (hf : w_X11_list_20 K  a0  h) : PW G M_X11_list rm_X11_list 0 0 [] n0 K 20 [] [] [] 0 0 h := by
  unfold w_X11_list_20 at hf
  refine p_iconst dX11_list_20 (by decide) ?_
  exact p_iret dX11_list_21 rfl (by decide) (by decide) (fun _ h => absurd h List.not_mem_nil) hf
def w_X11_list_24 (K : Int → Hh → Prop) (X50 : Int → Hh → Prop) (a0 : Int) : Nat → Int → Int → Hh → Prop
  | 0, _, _, _ => False
  | n + 1, v1, v2, h => if v2 ≥ h a0 42 then (X50 v1 h) else (((0 : Int) ≤ v2 ∧ (v2 : Int) < 4) ∧ (if h (a0 + 30) v2 ≠ v1 then (vb (w32 (v2 + 1)) fun z4 => w_X11_list_24 K X50 a0 n v1 z4 h) else (K (-1) h)))
set_option maxRecDepth 100000 in
set_option maxHeartbeats 4000000 in
theorem t_X11_list_24 {G : Gx} {n0 : Int} {K : Int → Hh → Prop} {X50 : Int → Hh → Prop} {a0 : Int} (h0 : 0 ≤ a0) (hX50 : ∀ (v1 : Int) (h : Hh), X50 v1 h → PW G M_X11_list rm_X11_list 0 0 [] n0 K 50 [(0, vr 11 a0 0), (1, vi v1)] [] [] 0 0 h) : ∀ (n : Nat) (v1 v2 : Int) (h : Hh), w_X11_list_24 K X50 a0 n v1 v2 h → PW G M_X11_list rm_X11_list 0 0 [] n0 K 24 [(0, vr 11 a0 0), (1, vi v1), (2, vi v2)] [] [] 0 0 h := by
  intro n
  induction n with
  | zero =>
    intro v1 v2 h hf
    rw [w_X11_list_24] at hf
    exact hf.elim
  | succ n ih =>
    intro v1 v2 h hf
    rw [w_X11_list_24] at hf
    refine p_iload_n dX11_list_24 rfl 2 rfl ?_
    refine p_aload_n dX11_list_25 rfl 0 rfl ?_
    refine p_get (c := 11) (vi (h a0 42)) dX11_list_26 42 tb_935 (by decide) (by decide) (Or.inl rfl) h0 rfl rfl ?_
    refine p_icmp_ge (tgt := 50) (q := v2 ≥ h a0 42) dX11_list_29 (by decide) Iff.rfl (fun hc => ?_) (fun hc => ?_)
    · replace hf := Eq.mp (if_pos hc) hf
      refine p_sub (ls' := [(0, vr 11 a0 0), (1, vi v1)]) [0, 1] rfl ?_
      exact hX50 _ _ hf
    · replace hf := Eq.mp (if_neg hc) hf
      refine p_aload_n dX11_list_32 rfl 0 rfl ?_
      refine p_lay (c := 11) (tq := 100) (n := 4) dX11_list_33 43 30 tb_936 (by decide) (by decide) h0 (by decide) (by decide) (fun _ => rfl) (vr 100 (a0 + 30) 4) rfl ?_
      refine p_iload_n dX11_list_36 rfl 2 rfl ?_
      obtain ⟨c3, hf⟩ := hf
      refine p_iald dX11_list_37 (nnk h0 (by decide)) c3 ?_
      refine p_iload_n dX11_list_38 rfl 1 rfl ?_
      refine p_icmp_ne (tgt := 44) (q := h (a0 + 30) v2 ≠ v1) dX11_list_39 (by decide) Iff.rfl (fun hc => ?_) (fun hc => ?_)
      · replace hf := Eq.mp (if_pos hc) hf
        refine p_iinc (ls' := [(2, vi (w32 (v2 + 1))), (0, vr 11 a0 0), (1, vi v1)]) dX11_list_44 2 rfl (by decide) rfl ?_
        replace hf := vb_e hf
        generalize w32 (v2 + 1) = z4 at hf ⊢
        refine p_goto (tgt := 24) dX11_list_47 (by decide) ?_
        refine p_sub (ls' := [(0, vr 11 a0 0), (1, vi v1), (2, vi z4)]) [1, 2, 0] rfl ?_
        exact ih _ _ _ hf
      · replace hf := Eq.mp (if_neg hc) hf
        refine p_iconst dX11_list_42 (by decide) ?_
        exact p_iret dX11_list_43 rfl (by decide) (by decide) (fun _ h => absurd h List.not_mem_nil) hf
def w_X11_list (a0 x1 : Int) (h : Hh) (K : Int → Hh → Prop) : Prop := w_X11_in x1 1 50 h (fun r1 h2 => if r1 = 0 then (w_X11_list_20 K  a0  h2) else (if h2 a0 42 ≠ 4 then (w_X11_list_24 K (fun u6 h5 => ((0 : Int) ≤ h5 a0 42 ∧ (h5 a0 42 : Int) < 4) ∧ (hb (up h5 (a0 + 30) (h5 a0 42) u6) fun h8 => hb (up h8 a0 42 (w32 ((h8 a0 42) + 1))) fun h9 => K (h9 a0 42) h9)) a0 NF x1 0 h2) else (w_X11_list_20 K  a0  h2)))
set_option maxRecDepth 100000 in
set_option maxHeartbeats 4000000 in
theorem t_X11_list {G : Gx} (a0 x1 : Int) (h : Hh) (K : Int → Hh → Prop) (h0 : 0 ≤ a0) (hf : w_X11_list a0 x1 h K) : CT G M_X11_list rm_X11_list 0 0 [] [vr 11 a0 0, vi x1] h K := by
  unfold w_X11_list at hf
  refine CT.of (ls0 := [(0, vr 11 a0 0), (1, vi x1)]) (plainFor_of_name (by decide +kernel)) (by decide +kernel) (Nat.le_of_ble_eq_true rfl) rfl rfl ?_
  refine p_iload_n dX11_list_0 rfl 1 rfl ?_
  refine p_i2l dX11_list_1 ?_
  refine p_lconst (z := 1) dX11_list_2 rfl ?_
  refine p_ldc2 (z := 50) dX11_list_3 tb_1160 (by decide) ?_
  refine p_callSi dX11_list_6 M_X11_in (Or.inr rfl) [vl x1, vl 1, vl 50] (t_X11_in _ _ _ _ _ hf) ok_X11_in rfl tb_1079 tb_1080 rfl (Nat.le_of_ble_eq_true rfl) ⟨rfl, rfl⟩ ⟨by decide, by decide⟩ ⟨by decide, by decide⟩ (fun r1 h2 hf => ?_)
  refine p_if_eq (tgt := 20) (q := r1 = 0) dX11_list_9 (by decide) Iff.rfl (fun hc => ?_) (fun hc => ?_)
  · replace hf := Eq.mp (if_pos hc) hf
    refine p_sub (ls' := []) [] rfl ?_
    exact t_X11_list_20 h0   _ hf
  · replace hf := Eq.mp (if_neg hc) hf
    refine p_aload_n dX11_list_12 rfl 0 rfl ?_
    refine p_get (c := 11) (vi (h2 a0 42)) dX11_list_13 42 tb_935 (by decide) (by decide) (Or.inl rfl) h0 rfl rfl ?_
    refine p_iconst dX11_list_16 (by decide) ?_
    refine p_icmp_ne (tgt := 22) (q := h2 a0 42 ≠ 4) dX11_list_17 (by decide) Iff.rfl (fun hc => ?_) (fun hc => ?_)
    · replace hf := Eq.mp (if_pos hc) hf
      refine p_iconst dX11_list_22 (by decide) ?_
      refine p_istore_n (ls' := [(2, vi 0), (0, vr 11 a0 0), (1, vi x1)]) dX11_list_23 rfl (by decide) rfl ?_
      refine p_sub (ls' := [(0, vr 11 a0 0), (1, vi x1), (2, vi 0)]) [1, 2, 0] rfl ?_
      refine t_X11_list_24 h0 ?_ NF _ _ _ hf
      · intro u6 h5 hf
        refine p_aload_n dX11_list_50 rfl 0 rfl ?_
        refine p_lay (c := 11) (tq := 100) (n := 4) dX11_list_51 43 30 tb_936 (by decide) (by decide) h0 (by decide) (by decide) (fun _ => rfl) (vr 100 (a0 + 30) 4) rfl ?_
        refine p_aload_n dX11_list_54 rfl 0 rfl ?_
        refine p_get (c := 11) (vi (h5 a0 42)) dX11_list_55 42 tb_935 (by decide) (by decide) (Or.inl rfl) h0 rfl rfl ?_
        refine p_iload_n dX11_list_58 rfl 1 rfl ?_
        obtain ⟨c7, hf⟩ := hf
        refine p_iast dX11_list_59 (nnk h0 (by decide)) c7 ?_
        replace hf := hb_e hf
        generalize up h5 (a0 + 30) (h5 a0 42) u6 = h8 at hf ⊢
        refine p_aload_n dX11_list_60 rfl 0 rfl ?_
        refine p_dup dX11_list_61 (fun _ q => by cases q) ?_
        refine p_get (c := 11) (vi (h8 a0 42)) dX11_list_62 42 tb_935 (by decide) (by decide) (Or.inl rfl) h0 rfl rfl ?_
        refine p_iconst dX11_list_65 (by decide) ?_
        refine p_iadd dX11_list_66 ?_
        refine p_puti (c := 11) dX11_list_67 42 tb_935 (by decide) (by decide) (Or.inl rfl) h0 rfl rfl (fun _ => by decide) (up h8 a0 42 (w32 ((h8 a0 42) + 1))) rfl ?_
        replace hf := hb_e hf
        generalize up h8 a0 42 (w32 ((h8 a0 42) + 1)) = h9 at hf ⊢
        refine p_aload_n dX11_list_70 rfl 0 rfl ?_
        refine p_get (c := 11) (vi (h9 a0 42)) dX11_list_71 42 tb_935 (by decide) (by decide) (Or.inl rfl) h0 rfl rfl ?_
        exact p_iret dX11_list_74 rfl (by decide) (by decide) (fun _ h => absurd h List.not_mem_nil) hf
    · replace hf := Eq.mp (if_neg hc) hf
      refine p_sub (ls' := []) [] rfl ?_
      exact t_X11_list_20 h0   _ hf
theorem ok_X11_list : mOK M_X11_list 1 := ⟨tb_1269, tb_9, by decide +kernel⟩
abbrev M_X11_clear : MD := (yX11_clear, cX11_clear, 2, some .int)
abbrev rm_X11_clear : Room := { frames := 0, cells := 0, slots := 0, locals := 0 }
def w_X11_clear (a0 : Int) (h : Hh) (K : Int → Hh → Prop) : Prop := vb (h a0 42) fun z1 => hb (up h a0 42 0) fun h2 => K z1 h2
set_option maxRecDepth 100000 in
set_option maxHeartbeats 4000000 in
theorem t_X11_clear {G : Gx} (a0 : Int) (h : Hh) (K : Int → Hh → Prop) (h0 : 0 ≤ a0) (hf : w_X11_clear a0 h K) : CT G M_X11_clear rm_X11_clear 0 0 [] [vr 11 a0 0] h K := by
  unfold w_X11_clear at hf
  refine CT.of (ls0 := [(0, vr 11 a0 0)]) (plainFor_of_name (by decide +kernel)) (by decide +kernel) (Nat.le_of_ble_eq_true rfl) rfl rfl ?_
  refine p_aload_n dX11_clear_0 rfl 0 rfl ?_
  refine p_get (c := 11) (vi (h a0 42)) dX11_clear_1 42 tb_935 (by decide) (by decide) (Or.inl rfl) h0 rfl rfl ?_
  refine p_istore_n (ls' := [(1, vi (h a0 42)), (0, vr 11 a0 0)]) dX11_clear_4 rfl (by decide) rfl ?_
  replace hf := vb_e hf
  generalize (h a0 42) = z1 at hf ⊢
  refine p_aload_n dX11_clear_5 rfl 1 rfl ?_
  refine p_iconst dX11_clear_6 (by decide) ?_
  refine p_puti (c := 11) dX11_clear_7 42 tb_935 (by decide) (by decide) (Or.inl rfl) h0 rfl rfl (fun _ => by decide) (up h a0 42 0) rfl ?_
  replace hf := hb_e hf
  generalize up h a0 42 0 = h2 at hf ⊢
  refine p_iload_n dX11_clear_10 rfl 0 rfl ?_
  exact p_iret dX11_clear_11 rfl (by decide) (by decide) (fun _ h => absurd h List.not_mem_nil) hf
theorem ok_X11_clear : mOK M_X11_clear 0 := ⟨tb_1273, tb_9, by decide +kernel⟩
abbrev M_X11_finest : MD := (yX11_finest, cX11_finest, 18, some .int)
abbrev rm_X11_finest : Room := { frames := 3, cells := 0, slots := 0, locals := 86 }
def w_X11_finest_46 (K : Int → Hh → Prop) (a0 : Int) (h : Hh) : Prop := K (-1) h
set_option maxRecDepth 100000 in
set_option maxHeartbeats 4000000 in
theorem t_X11_finest_46 {G : Gx} {n0 : Int} {K : Int → Hh → Prop} {a0 : Int} (h0 : 0 ≤ a0)  (h : Hh) (hf : w_X11_finest_46 K  a0  h) : PW G M_X11_finest rm_X11_finest 0 0 [] n0 K 46 [] [] [] 0 0 h := by
  unfold w_X11_finest_46 at hf
  refine p_iconst dX11_finest_46 (by decide) ?_
  exact p_iret dX11_finest_47 rfl (by decide) (by decide) (fun _ h => absurd h List.not_mem_nil) hf
def w_X11_finest_219 (K : Int → Hh → Prop) (B : Int → Int → Int → Int → Int → Int → Int → Int → Int → Int → Hh → Prop) (X225 : Int → Int → Int → Int → Int → Int → Int → Int → Int → Hh → Prop) (a0 : Int) (v1 v2 v3 v4 v5 v6 v7 v9 v11 v12 : Int) (h : Hh) : Prop := vb (w32 (v12 + 1)) fun z20 => B v1 v2 v3 v4 v5 v6 v7 v9 v11 z20 h
set_option maxRecDepth 100000 in
set_option maxHeartbeats 4000000 in
theorem t_X11_finest_219 {G : Gx} {n0 : Int} {K : Int → Hh → Prop} {B : Int → Int → Int → Int → Int → Int → Int → Int → Int → Int → Hh → Prop} {X225 : Int → Int → Int → Int → Int → Int → Int → Int → Int → Hh → Prop} {a0 : Int} (h0 : 0 ≤ a0) (hB : ∀ (v1 v2 v3 v4 v5 v6 v7 v9 v11 v12 : Int) (h : Hh), B v1 v2 v3 v4 v5 v6 v7 v9 v11 v12 h → PW G M_X11_finest rm_X11_finest 0 0 [] n0 K 91 [(0, vr 11 a0 0), (1, vi v1), (2, vi v2), (3, vi v3), (4, vi v4), (5, vi v5), (6, vi v6), (7, vl v7), (9, vl v9), (11, vi v11), (12, vi v12)] [] [] 0 0 h) (hX225 : ∀ (v1 v2 v3 v4 v5 v6 v7 v9 v11 : Int) (h : Hh), X225 v1 v2 v3 v4 v5 v6 v7 v9 v11 h → PW G M_X11_finest rm_X11_finest 0 0 [] n0 K 225 [(0, vr 11 a0 0), (1, vi v1), (2, vi v2), (3, vi v3), (4, vi v4), (5, vi v5), (6, vi v6), (7, vl v7), (9, vl v9), (11, vi v11)] [] [] 0 0 h)  (v1 v2 v3 v4 v5 v6 v7 v9 v11 v12 : Int) (h : Hh) (hf : w_X11_finest_219 K B X225 a0 v1 v2 v3 v4 v5 v6 v7 v9 v11 v12 h) : PW G M_X11_finest rm_X11_finest 0 0 [] n0 K 219 [(0, vr 11 a0 0), (1, vi v1), (2, vi v2), (3, vi v3), (4, vi v4), (5, vi v5), (6, vi v6), (7, vl v7), (9, vl v9), (11, vi v11), (12, vi v12)] [] [] 0 0 h := by
  unfold w_X11_finest_219 at hf
  refine p_iinc (ls' := [(12, vi (w32 (v12 + 1))), (0, vr 11 a0 0), (1, vi v1), (2, vi v2), (3, vi v3), (4, vi v4), (5, vi v5), (6, vi v6), (7, vl v7), (9, vl v9), (11, vi v11)]) dX11_finest_219 10 rfl (by decide) rfl ?_
  replace hf := vb_e hf
  generalize w32 (v12 + 1) = z20 at hf ⊢
  refine p_goto (tgt := 91) dX11_finest_222 (by decide) ?_
  refine p_sub (ls' := [(0, vr 11 a0 0), (1, vi v1), (2, vi v2), (3, vi v3), (4, vi v4), (5, vi v5), (6, vi v6), (7, vl v7), (9, vl v9), (11, vi v11), (12, vi z20)]) [1, 2, 3, 4, 5, 6, 7, 8, 9, 10, 0] rfl ?_
  exact hB _ _ _ _ _ _ _ _ _ _ _ hf
def w_X11_finest_183 (K : Int → Hh → Prop) (B : Int → Int → Int → Int → Int → Int → Int → Int → Int → Int → Hh → Prop) (X225 : Int → Int → Int → Int → Int → Int → Int → Int → Int → Hh → Prop) (a0 : Int) (v1 v2 v3 v4 v5 v6 v7 v9 v11 v12 v13 v15 s0 : Int) (h : Hh) : Prop := if s0 ≠ 0 then (vb (w32 (w64 ((w64 (100 * v13)) + v15))) fun z17 => vb (w64 (v13 * v15)) fun z18 => vb (w64 (v13 + v15)) fun z19 => w_X11_finest_219 K B X225 a0 v1 v2 v3 z17 v5 v6 z18 z19 v11 v12 h) else (w_X11_finest_219 K B X225 a0 v1 v2 v3 v4 v5 v6 v7 v9 v11 v12 h)
set_option maxRecDepth 100000 in
set_option maxHeartbeats 4000000 in
theorem t_X11_finest_183 {G : Gx} {n0 : Int} {K : Int → Hh → Prop} {B : Int → Int → Int → Int → Int → Int → Int → Int → Int → Int → Hh → Prop} {X225 : Int → Int → Int → Int → Int → Int → Int → Int → Int → Hh → Prop} {a0 : Int} (h0 : 0 ≤ a0) (hB : ∀ (v1 v2 v3 v4 v5 v6 v7 v9 v11 v12 : Int) (h : Hh), B v1 v2 v3 v4 v5 v6 v7 v9 v11 v12 h → PW G M_X11_finest rm_X11_finest 0 0 [] n0 K 91 [(0, vr 11 a0 0), (1, vi v1), (2, vi v2), (3, vi v3), (4, vi v4), (5, vi v5), (6, vi v6), (7, vl v7), (9, vl v9), (11, vi v11), (12, vi v12)] [] [] 0 0 h) (hX225 : ∀ (v1 v2 v3 v4 v5 v6 v7 v9 v11 : Int) (h : Hh), X225 v1 v2 v3 v4 v5 v6 v7 v9 v11 h → PW G M_X11_finest rm_X11_finest 0 0 [] n0 K 225 [(0, vr 11 a0 0), (1, vi v1), (2, vi v2), (3, vi v3), (4, vi v4), (5, vi v5), (6, vi v6), (7, vl v7), (9, vl v9), (11, vi v11)] [] [] 0 0 h)  (v1 v2 v3 v4 v5 v6 v7 v9 v11 v12 v13 v15 s0 : Int) (h : Hh) (hf : w_X11_finest_183 K B X225 a0 v1 v2 v3 v4 v5 v6 v7 v9 v11 v12 v13 v15 s0 h) : PW G M_X11_finest rm_X11_finest 0 0 [] n0 K 183 [(0, vr 11 a0 0), (1, vi v1), (2, vi v2), (3, vi v3), (4, vi v4), (5, vi v5), (6, vi v6), (7, vl v7), (9, vl v9), (11, vi v11), (12, vi v12), (13, vl v13), (15, vl v15)] [vi s0] [] 0 0 h := by
  unfold w_X11_finest_183 at hf
  refine p_istore (ls' := [(17, vi s0), (0, vr 11 a0 0), (1, vi v1), (2, vi v2), (3, vi v3), (4, vi v4), (5, vi v5), (6, vi v6), (7, vl v7), (9, vl v9), (11, vi v11), (12, vi v12), (13, vl v13), (15, vl v15)]) dX11_finest_183 (by decide) rfl ?_
  refine p_iload dX11_finest_185 0 rfl ?_
  refine p_if_ne (tgt := 193) (q := s0 ≠ 0) dX11_finest_187 (by decide) Iff.rfl (fun hc => ?_) (fun hc => ?_)
  · replace hf := Eq.mp (if_pos hc) hf
    refine p_ldc2 (z := 100) dX11_finest_193 tb_1278 (by decide) ?_
    refine p_lload dX11_finest_196 12 rfl ?_
    refine p_lmul dX11_finest_198 ?_
    refine p_lload dX11_finest_199 13 rfl ?_
    refine p_ladd dX11_finest_201 ?_
    refine p_l2i dX11_finest_202 ?_
    refine p_istore (ls' := [(4, vi (w32 (w64 ((w64 (100 * v13)) + v15)))), (17, vi s0), (0, vr 11 a0 0), (1, vi v1), (2, vi v2), (3, vi v3), (5, vi v5), (6, vi v6), (7, vl v7), (9, vl v9), (11, vi v11), (12, vi v12), (13, vl v13), (15, vl v15)]) dX11_finest_203 (by decide) rfl ?_
    replace hf := vb_e hf
    generalize (w32 (w64 ((w64 (100 * v13)) + v15))) = z17 at hf ⊢
    refine p_lload dX11_finest_205 12 rfl ?_
    refine p_lload dX11_finest_207 13 rfl ?_
    refine p_lmul dX11_finest_209 ?_
    refine p_lstore (ls' := [(7, vl (w64 (v13 * v15))), (4, vi z17), (17, vi s0), (0, vr 11 a0 0), (1, vi v1), (2, vi v2), (3, vi v3), (5, vi v5), (6, vi v6), (9, vl v9), (11, vi v11), (12, vi v12), (13, vl v13), (15, vl v15)]) dX11_finest_210 (by decide) rfl ?_
    replace hf := vb_e hf
    generalize (w64 (v13 * v15)) = z18 at hf ⊢
    refine p_lload dX11_finest_212 12 rfl ?_
    refine p_lload dX11_finest_214 13 rfl ?_
    refine p_ladd dX11_finest_216 ?_
    refine p_lstore (ls' := [(9, vl (w64 (v13 + v15))), (7, vl z18), (4, vi z17), (17, vi s0), (0, vr 11 a0 0), (1, vi v1), (2, vi v2), (3, vi v3), (5, vi v5), (6, vi v6), (11, vi v11), (12, vi v12), (13, vl v13), (15, vl v15)]) dX11_finest_217 (by decide) rfl ?_
    replace hf := vb_e hf
    generalize (w64 (v13 + v15)) = z19 at hf ⊢
    refine p_sub (ls' := [(0, vr 11 a0 0), (1, vi v1), (2, vi v2), (3, vi v3), (4, vi z17), (5, vi v5), (6, vi v6), (7, vl z18), (9, vl z19), (11, vi v11), (12, vi v12)]) [4, 5, 6, 7, 2, 8, 9, 1, 0, 10, 11] rfl ?_
    exact t_X11_finest_219 h0 hB hX225 _ _ _ _ _ _ _ _ _ _ _ hf
  · replace hf := Eq.mp (if_neg hc) hf
    refine p_goto (tgt := 219) dX11_finest_190 (by decide) ?_
    refine p_sub (ls' := [(0, vr 11 a0 0), (1, vi v1), (2, vi v2), (3, vi v3), (4, vi v4), (5, vi v5), (6, vi v6), (7, vl v7), (9, vl v9), (11, vi v11), (12, vi v12)]) [1, 2, 3, 4, 5, 6, 7, 8, 9, 10, 11] rfl ?_
    exact t_X11_finest_219 h0 hB hX225 _ _ _ _ _ _ _ _ _ _ _ hf
def w_X11_finest_178 (K : Int → Hh → Prop) (B : Int → Int → Int → Int → Int → Int → Int → Int → Int → Int → Hh → Prop) (X225 : Int → Int → Int → Int → Int → Int → Int → Int → Int → Hh → Prop) (a0 : Int) (v1 v2 v3 v4 v5 v6 v7 v9 v11 v12 v13 v15 : Int) (h : Hh) : Prop := w_X11_finest_183 K B X225 a0 v1 v2 v3 v4 v5 v6 v7 v9 v11 v12 v13 v15 1 h
set_option maxRecDepth 100000 in
set_option maxHeartbeats 4000000 in
theorem t_X11_finest_178 {G : Gx} {n0 : Int} {K : Int → Hh → Prop} {B : Int → Int → Int → Int → Int → Int → Int → Int → Int → Int → Hh → Prop} {X225 : Int → Int → Int → Int → Int → Int → Int → Int → Int → Hh → Prop} {a0 : Int} (h0 : 0 ≤ a0) (hB : ∀ (v1 v2 v3 v4 v5 v6 v7 v9 v11 v12 : Int) (h : Hh), B v1 v2 v3 v4 v5 v6 v7 v9 v11 v12 h → PW G M_X11_finest rm_X11_finest 0 0 [] n0 K 91 [(0, vr 11 a0 0), (1, vi v1), (2, vi v2), (3, vi v3), (4, vi v4), (5, vi v5), (6, vi v6), (7, vl v7), (9, vl v9), (11, vi v11), (12, vi v12)] [] [] 0 0 h) (hX225 : ∀ (v1 v2 v3 v4 v5 v6 v7 v9 v11 : Int) (h : Hh), X225 v1 v2 v3 v4 v5 v6 v7 v9 v11 h → PW G M_X11_finest rm_X11_finest 0 0 [] n0 K 225 [(0, vr 11 a0 0), (1, vi v1), (2, vi v2), (3, vi v3), (4, vi v4), (5, vi v5), (6, vi v6), (7, vl v7), (9, vl v9), (11, vi v11)] [] [] 0 0 h)  (v1 v2 v3 v4 v5 v6 v7 v9 v11 v12 v13 v15 : Int) (h : Hh) (hf : w_X11_finest_178 K B X225 a0 v1 v2 v3 v4 v5 v6 v7 v9 v11 v12 v13 v15 h) : PW G M_X11_finest rm_X11_finest 0 0 [] n0 K 178 [(0, vr 11 a0 0), (1, vi v1), (2, vi v2), (3, vi v3), (4, vi v4), (5, vi v5), (6, vi v6), (7, vl v7), (9, vl v9), (11, vi v11), (12, vi v12), (13, vl v13), (15, vl v15)] [] [] 0 0 h := by
  unfold w_X11_finest_178 at hf
  refine p_iconst dX11_finest_178 (by decide) ?_
  refine p_goto (tgt := 183) dX11_finest_179 (by decide) ?_
  exact t_X11_finest_183 h0 hB hX225 _ _ _ _ _ _ _ _ _ _ _ _ _ _ hf
def w_X11_finest_182 (K : Int → Hh → Prop) (B : Int → Int → Int → Int → Int → Int → Int → Int → Int → Int → Hh → Prop) (X225 : Int → Int → Int → Int → Int → Int → Int → Int → Int → Hh → Prop) (a0 : Int) (v1 v2 v3 v4 v5 v6 v7 v9 v11 v12 v13 v15 : Int) (h : Hh) : Prop := w_X11_finest_183 K B X225 a0 v1 v2 v3 v4 v5 v6 v7 v9 v11 v12 v13 v15 0 h
set_option maxRecDepth 100000 in
set_option maxHeartbeats 4000000 in
theorem t_X11_finest_182 {G : Gx} {n0 : Int} {K : Int → Hh → Prop} {B : Int → Int → Int → Int → Int → Int → Int → Int → Int → Int → Hh → Prop} {X225 : Int → Int → Int → Int → Int → Int → Int → Int → Int → Hh → Prop} {a0 : Int} (h0 : 0 ≤ a0) (hB : ∀ (v1 v2 v3 v4 v5 v6 v7 v9 v11 v12 : Int) (h : Hh), B v1 v2 v3 v4 v5 v6 v7 v9 v11 v12 h → PW G M_X11_finest rm_X11_finest 0 0 [] n0 K 91 [(0, vr 11 a0 0), (1, vi v1), (2, vi v2), (3, vi v3), (4, vi v4), (5, vi v5), (6, vi v6), (7, vl v7), (9, vl v9), (11, vi v11), (12, vi v12)] [] [] 0 0 h) (hX225 : ∀ (v1 v2 v3 v4 v5 v6 v7 v9 v11 : Int) (h : Hh), X225 v1 v2 v3 v4 v5 v6 v7 v9 v11 h → PW G M_X11_finest rm_X11_finest 0 0 [] n0 K 225 [(0, vr 11 a0 0), (1, vi v1), (2, vi v2), (3, vi v3), (4, vi v4), (5, vi v5), (6, vi v6), (7, vl v7), (9, vl v9), (11, vi v11)] [] [] 0 0 h)  (v1 v2 v3 v4 v5 v6 v7 v9 v11 v12 v13 v15 : Int) (h : Hh) (hf : w_X11_finest_182 K B X225 a0 v1 v2 v3 v4 v5 v6 v7 v9 v11 v12 v13 v15 h) : PW G M_X11_finest rm_X11_finest 0 0 [] n0 K 182 [(0, vr 11 a0 0), (1, vi v1), (2, vi v2), (3, vi v3), (4, vi v4), (5, vi v5), (6, vi v6), (7, vl v7), (9, vl v9), (11, vi v11), (12, vi v12), (13, vl v13), (15, vl v15)] [] [] 0 0 h := by
  unfold w_X11_finest_182 at hf
  refine p_iconst dX11_finest_182 (by decide) ?_
  exact t_X11_finest_183 h0 hB hX225 _ _ _ _ _ _ _ _ _ _ _ _ _ _ hf
def w_X11_finest_91 (K : Int → Hh → Prop) (X225 : Int → Int → Int → Int → Int → Int → Int → Int → Int → Hh → Prop) (a0 : Int) : Nat → Int → Int → Int → Int → Int → Int → Int → Int → Int → Int → Hh → Prop
  | 0, _, _, _, _, _, _, _, _, _, _, _ => False
  | n + 1, v1, v2, v3, v4, v5, v6, v7, v9, v11, v12, h => if v12 ≥ h a0 42 then (X225 v1 v2 v3 v4 v5 v6 v7 v9 v11 h) else (((0 : Int) ≤ v11 ∧ (v11 : Int) < 4) ∧ (vb (h (a0 + 30) v11) fun z12 => ((0 : Int) ≤ v12 ∧ (v12 : Int) < 4) ∧ (vb (h (a0 + 30) v12) fun z14 => w_X11_tall a0 v1 v6 z12 z14 h (fun r15 h16 => if r15 ≤ v2 then (if v4 = (-1) then (w_X11_finest_178 K (w_X11_finest_91 K X225 a0 n) X225 a0 v1 v2 v3 v4 v5 v6 v7 v9 v11 v12 z12 z14 h16) else (w_X11_pagesOf a0 v1 h16 (fun r21 h22 => if v6 ≠ w32 (r21 - 1) then (w_X11_finest_182 K (w_X11_finest_91 K X225 a0 n) X225 a0 v1 v2 v3 v4 v5 v6 v7 v9 v11 v12 z12 z14 h22) else (if w64 ((w64 (z12 * z14)) * v9) ≤ w64 (v7 * (w64 (z12 + z14))) then (w_X11_finest_182 K (w_X11_finest_91 K X225 a0 n) X225 a0 v1 v2 v3 v4 v5 v6 v7 v9 v11 v12 z12 z14 h22) else (w_X11_finest_178 K (w_X11_finest_91 K X225 a0 n) X225 a0 v1 v2 v3 v4 v5 v6 v7 v9 v11 v12 z12 z14 h22))))) else (w_X11_finest_219 K (w_X11_finest_91 K X225 a0 n) X225 a0 v1 v2 v3 v4 v5 v6 v7 v9 v11 v12 h16)))))
set_option maxRecDepth 100000 in
set_option maxHeartbeats 4000000 in
theorem t_X11_finest_91 {G : Gx} {n0 : Int} {K : Int → Hh → Prop} {X225 : Int → Int → Int → Int → Int → Int → Int → Int → Int → Hh → Prop} {a0 : Int} (h0 : 0 ≤ a0) (hX225 : ∀ (v1 v2 v3 v4 v5 v6 v7 v9 v11 : Int) (h : Hh), X225 v1 v2 v3 v4 v5 v6 v7 v9 v11 h → PW G M_X11_finest rm_X11_finest 0 0 [] n0 K 225 [(0, vr 11 a0 0), (1, vi v1), (2, vi v2), (3, vi v3), (4, vi v4), (5, vi v5), (6, vi v6), (7, vl v7), (9, vl v9), (11, vi v11)] [] [] 0 0 h) : ∀ (n : Nat) (v1 v2 v3 v4 v5 v6 v7 v9 v11 v12 : Int) (h : Hh), w_X11_finest_91 K X225 a0 n v1 v2 v3 v4 v5 v6 v7 v9 v11 v12 h → PW G M_X11_finest rm_X11_finest 0 0 [] n0 K 91 [(0, vr 11 a0 0), (1, vi v1), (2, vi v2), (3, vi v3), (4, vi v4), (5, vi v5), (6, vi v6), (7, vl v7), (9, vl v9), (11, vi v11), (12, vi v12)] [] [] 0 0 h := by
  intro n
  induction n with
  | zero =>
    intro v1 v2 v3 v4 v5 v6 v7 v9 v11 v12 h hf
    rw [w_X11_finest_91] at hf
    exact hf.elim
  | succ n ih =>
    intro v1 v2 v3 v4 v5 v6 v7 v9 v11 v12 h hf
    rw [w_X11_finest_91] at hf
    refine p_iload dX11_finest_91 10 rfl ?_
    refine p_aload_n dX11_finest_93 rfl 0 rfl ?_
    refine p_get (c := 11) (vi (h a0 42)) dX11_finest_94 42 tb_935 (by decide) (by decide) (Or.inl rfl) h0 rfl rfl ?_
    refine p_icmp_ge (tgt := 225) (q := v12 ≥ h a0 42) dX11_finest_97 (by decide) Iff.rfl (fun hc => ?_) (fun hc => ?_)
    · replace hf := Eq.mp (if_pos hc) hf
      refine p_sub (ls' := [(0, vr 11 a0 0), (1, vi v1), (2, vi v2), (3, vi v3), (4, vi v4), (5, vi v5), (6, vi v6), (7, vl v7), (9, vl v9), (11, vi v11)]) [0, 1, 2, 3, 4, 5, 6, 7, 8, 9] rfl ?_
      exact hX225 _ _ _ _ _ _ _ _ _ _ hf
    · replace hf := Eq.mp (if_neg hc) hf
      refine p_aload_n dX11_finest_100 rfl 0 rfl ?_
      refine p_lay (c := 11) (tq := 100) (n := 4) dX11_finest_101 43 30 tb_936 (by decide) (by decide) h0 (by decide) (by decide) (fun _ => rfl) (vr 100 (a0 + 30) 4) rfl ?_
      refine p_iload dX11_finest_104 9 rfl ?_
      obtain ⟨c11, hf⟩ := hf
      refine p_iald dX11_finest_106 (nnk h0 (by decide)) c11 ?_
      refine p_i2l dX11_finest_107 ?_
      refine p_lstore (ls' := [(13, vl (h (a0 + 30) v11)), (0, vr 11 a0 0), (1, vi v1), (2, vi v2), (3, vi v3), (4, vi v4), (5, vi v5), (6, vi v6), (7, vl v7), (9, vl v9), (11, vi v11), (12, vi v12)]) dX11_finest_108 (by decide) rfl ?_
      replace hf := vb_e hf
      generalize (h (a0 + 30) v11) = z12 at hf ⊢
      refine p_aload_n dX11_finest_110 rfl 1 rfl ?_
      refine p_lay (c := 11) (tq := 100) (n := 4) dX11_finest_111 43 30 tb_936 (by decide) (by decide) h0 (by decide) (by decide) (fun _ => rfl) (vr 100 (a0 + 30) 4) rfl ?_
      refine p_iload dX11_finest_114 11 rfl ?_
      obtain ⟨c13, hf⟩ := hf
      refine p_iald dX11_finest_116 (nnk h0 (by decide)) c13 ?_
      refine p_i2l dX11_finest_117 ?_
      refine p_lstore (ls' := [(15, vl (h (a0 + 30) v12)), (13, vl z12), (0, vr 11 a0 0), (1, vi v1), (2, vi v2), (3, vi v3), (4, vi v4), (5, vi v5), (6, vi v6), (7, vl v7), (9, vl v9), (11, vi v11), (12, vi v12)]) dX11_finest_118 (by decide) rfl ?_
      replace hf := vb_e hf
      generalize (h (a0 + 30) v12) = z14 at hf ⊢
      refine p_aload_n dX11_finest_120 rfl 2 rfl ?_
      refine p_iload_n dX11_finest_121 rfl 3 rfl ?_
      refine p_iload dX11_finest_122 8 rfl ?_
      refine p_lload dX11_finest_124 1 rfl ?_
      refine p_lload dX11_finest_126 0 rfl ?_
      refine p_callVl dX11_finest_128 M_X11_tall rfl [vi v1, vi v6, vl z12, vl z14] (t_X11_tall _ _ _ _ _ _ _ h0 hf) ok_X11_tall rfl (c := 11) (by decide) h0 rfl tb_1256 ⟨tb_1258, ts_94⟩ rfl (Nat.le_of_ble_eq_true rfl) ⟨rfl, rfl⟩ ⟨by decide, by decide⟩ ⟨by decide, by decide⟩ (fun r15 h16 hf => ?_)
      refine p_iload_n dX11_finest_131 rfl 4 rfl ?_
      refine p_i2l dX11_finest_132 ?_
      refine p_lcmp (z := (if r15 < v2 then (-1) else if r15 = v2 then 0 else 1)) dX11_finest_133 rfl ?_
      refine p_if_le (tgt := 140) (q := r15 ≤ v2) dX11_finest_134 (by decide) (lc_le r15 v2) (fun hc => ?_) (fun hc => ?_)
      · replace hf := Eq.mp (if_pos hc) hf
        refine p_iload dX11_finest_140 6 rfl ?_
        refine p_iconst dX11_finest_142 (by decide) ?_
        refine p_icmp_eq (tgt := 178) (q := v4 = (-1)) dX11_finest_143 (by decide) Iff.rfl (fun hc => ?_) (fun hc => ?_)
        · replace hf := Eq.mp (if_pos hc) hf
          refine p_sub (ls' := [(0, vr 11 a0 0), (1, vi v1), (2, vi v2), (3, vi v3), (4, vi v4), (5, vi v5), (6, vi v6), (7, vl v7), (9, vl v9), (11, vi v11), (12, vi v12), (13, vl z12), (15, vl z14)]) [2, 3, 4, 5, 6, 7, 8, 9, 10, 11, 12, 1, 0] rfl ?_
          exact t_X11_finest_178 h0 ih hX225 _ _ _ _ _ _ _ _ _ _ _ _ _ hf
        · replace hf := Eq.mp (if_neg hc) hf
          refine p_iload dX11_finest_146 8 rfl ?_
          refine p_aload_n dX11_finest_148 rfl 2 rfl ?_
          refine p_iload_n dX11_finest_149 rfl 3 rfl ?_
          refine p_callVi dX11_finest_150 M_X11_pagesOf (Or.inl rfl) [vi v1] (t_X11_pagesOf _ _ _ _ h0 hf) ok_X11_pagesOf rfl (c := 11) (by decide) h0 rfl tb_1211 ⟨tb_1213, ts_87⟩ rfl (Nat.le_of_ble_eq_true rfl) ⟨rfl, rfl⟩ ⟨by decide, by decide⟩ ⟨by decide, by decide⟩ (fun r21 h22 hf => ?_)
          refine p_iconst dX11_finest_153 (by decide) ?_
          refine p_isub dX11_finest_154 ?_
          refine p_icmp_ne (tgt := 182) (q := v6 ≠ w32 (r21 - 1)) dX11_finest_155 (by decide) Iff.rfl (fun hc => ?_) (fun hc => ?_)
          · replace hf := Eq.mp (if_pos hc) hf
            refine p_sub (ls' := [(0, vr 11 a0 0), (1, vi v1), (2, vi v2), (3, vi v3), (4, vi v4), (5, vi v5), (6, vi v6), (7, vl v7), (9, vl v9), (11, vi v11), (12, vi v12), (13, vl z12), (15, vl z14)]) [2, 3, 4, 5, 6, 7, 8, 9, 10, 11, 12, 1, 0] rfl ?_
            exact t_X11_finest_182 h0 ih hX225 _ _ _ _ _ _ _ _ _ _ _ _ _ hf
          · replace hf := Eq.mp (if_neg hc) hf
            refine p_lload dX11_finest_158 1 rfl ?_
            refine p_lload dX11_finest_160 0 rfl ?_
            refine p_lmul dX11_finest_162 ?_
            refine p_lload dX11_finest_163 10 rfl ?_
            refine p_lmul dX11_finest_165 ?_
            refine p_lload dX11_finest_166 9 rfl ?_
            refine p_lload dX11_finest_168 1 rfl ?_
            refine p_lload dX11_finest_170 0 rfl ?_
            refine p_ladd dX11_finest_172 ?_
            refine p_lmul dX11_finest_173 ?_
            refine p_lcmp (z := (if w64 ((w64 (z12 * z14)) * v9) < w64 (v7 * (w64 (z12 + z14))) then (-1) else if w64 ((w64 (z12 * z14)) * v9) = w64 (v7 * (w64 (z12 + z14))) then 0 else 1)) dX11_finest_174 rfl ?_
            refine p_if_le (tgt := 182) (q := w64 ((w64 (z12 * z14)) * v9) ≤ w64 (v7 * (w64 (z12 + z14)))) dX11_finest_175 (by decide) (lc_le (w64 ((w64 (z12 * z14)) * v9)) (w64 (v7 * (w64 (z12 + z14))))) (fun hc => ?_) (fun hc => ?_)
            · replace hf := Eq.mp (if_pos hc) hf
              refine p_sub (ls' := [(0, vr 11 a0 0), (1, vi v1), (2, vi v2), (3, vi v3), (4, vi v4), (5, vi v5), (6, vi v6), (7, vl v7), (9, vl v9), (11, vi v11), (12, vi v12), (13, vl z12), (15, vl z14)]) [2, 3, 4, 5, 6, 7, 8, 9, 10, 11, 12, 1, 0] rfl ?_
              exact t_X11_finest_182 h0 ih hX225 _ _ _ _ _ _ _ _ _ _ _ _ _ hf
            · replace hf := Eq.mp (if_neg hc) hf
              refine p_sub (ls' := [(0, vr 11 a0 0), (1, vi v1), (2, vi v2), (3, vi v3), (4, vi v4), (5, vi v5), (6, vi v6), (7, vl v7), (9, vl v9), (11, vi v11), (12, vi v12), (13, vl z12), (15, vl z14)]) [2, 3, 4, 5, 6, 7, 8, 9, 10, 11, 12, 1, 0] rfl ?_
              exact t_X11_finest_178 h0 ih hX225 _ _ _ _ _ _ _ _ _ _ _ _ _ hf
      · replace hf := Eq.mp (if_neg hc) hf
        refine p_goto (tgt := 219) dX11_finest_137 (by decide) ?_
        refine p_sub (ls' := [(0, vr 11 a0 0), (1, vi v1), (2, vi v2), (3, vi v3), (4, vi v4), (5, vi v5), (6, vi v6), (7, vl v7), (9, vl v9), (11, vi v11), (12, vi v12)]) [2, 3, 4, 5, 6, 7, 8, 9, 10, 11, 12] rfl ?_
        exact t_X11_finest_219 h0 ih hX225 _ _ _ _ _ _ _ _ _ _ _ hf
def w_X11_finest_79 (K : Int → Hh → Prop) (X231 : Int → Int → Int → Int → Int → Int → Hh → Prop) (a0 : Int) : Nat → Int → Int → Int → Int → Int → Int → Int → Int → Int → Hh → Prop
  | 0, _, _, _, _, _, _, _, _, _, _ => False
  | n + 1, v1, v2, v3, v4, v5, v6, v7, v9, v11, h => if v11 ≥ h a0 42 then (X231 v1 v2 v3 v4 v5 v6 h) else (w_X11_finest_91 K (fun u24 u25 u26 u27 u28 u29 u30 u31 u32 h23 => vb (w32 (u32 + 1)) fun z33 => w_X11_finest_79 K X231 a0 n u24 u25 u26 u27 u28 u29 u30 u31 z33 h23) a0 NF v1 v2 v3 v4 v5 v6 v7 v9 v11 0 h)
set_option maxRecDepth 100000 in
set_option maxHeartbeats 4000000 in
theorem t_X11_finest_79 {G : Gx} {n0 : Int} {K : Int → Hh → Prop} {X231 : Int → Int → Int → Int → Int → Int → Hh → Prop} {a0 : Int} (h0 : 0 ≤ a0) (hX231 : ∀ (v1 v2 v3 v4 v5 v6 : Int) (h : Hh), X231 v1 v2 v3 v4 v5 v6 h → PW G M_X11_finest rm_X11_finest 0 0 [] n0 K 231 [(0, vr 11 a0 0), (1, vi v1), (2, vi v2), (3, vi v3), (4, vi v4), (5, vi v5), (6, vi v6)] [] [] 0 0 h) : ∀ (n : Nat) (v1 v2 v3 v4 v5 v6 v7 v9 v11 : Int) (h : Hh), w_X11_finest_79 K X231 a0 n v1 v2 v3 v4 v5 v6 v7 v9 v11 h → PW G M_X11_finest rm_X11_finest 0 0 [] n0 K 79 [(0, vr 11 a0 0), (1, vi v1), (2, vi v2), (3, vi v3), (4, vi v4), (5, vi v5), (6, vi v6), (7, vl v7), (9, vl v9), (11, vi v11)] [] [] 0 0 h := by
  intro n
  induction n with
  | zero =>
    intro v1 v2 v3 v4 v5 v6 v7 v9 v11 h hf
    rw [w_X11_finest_79] at hf
    exact hf.elim
  | succ n ih =>
    intro v1 v2 v3 v4 v5 v6 v7 v9 v11 h hf
    rw [w_X11_finest_79] at hf
    refine p_iload dX11_finest_79 9 rfl ?_
    refine p_aload_n dX11_finest_81 rfl 0 rfl ?_
    refine p_get (c := 11) (vi (h a0 42)) dX11_finest_82 42 tb_935 (by decide) (by decide) (Or.inl rfl) h0 rfl rfl ?_
    refine p_icmp_ge (tgt := 231) (q := v11 ≥ h a0 42) dX11_finest_85 (by decide) Iff.rfl (fun hc => ?_) (fun hc => ?_)
    · replace hf := Eq.mp (if_pos hc) hf
      refine p_sub (ls' := [(0, vr 11 a0 0), (1, vi v1), (2, vi v2), (3, vi v3), (4, vi v4), (5, vi v5), (6, vi v6)]) [0, 1, 2, 3, 4, 5, 6] rfl ?_
      exact hX231 _ _ _ _ _ _ _ hf
    · replace hf := Eq.mp (if_neg hc) hf
      refine p_iconst dX11_finest_88 (by decide) ?_
      refine p_istore (ls' := [(12, vi 0), (0, vr 11 a0 0), (1, vi v1), (2, vi v2), (3, vi v3), (4, vi v4), (5, vi v5), (6, vi v6), (7, vl v7), (9, vl v9), (11, vi v11)]) dX11_finest_89 (by decide) rfl ?_
      refine p_sub (ls' := [(0, vr 11 a0 0), (1, vi v1), (2, vi v2), (3, vi v3), (4, vi v4), (5, vi v5), (6, vi v6), (7, vl v7), (9, vl v9), (11, vi v11), (12, vi 0)]) [1, 2, 3, 4, 5, 6, 7, 8, 9, 10, 0] rfl ?_
      refine t_X11_finest_91 h0 ?_ NF _ _ _ _ _ _ _ _ _ _ _ hf
      · intro u24 u25 u26 u27 u28 u29 u30 u31 u32 h23 hf
        refine p_iinc (ls' := [(11, vi (w32 (u32 + 1))), (0, vr 11 a0 0), (1, vi u24), (2, vi u25), (3, vi u26), (4, vi u27), (5, vi u28), (6, vi u29), (7, vl u30), (9, vl u31)]) dX11_finest_225 9 rfl (by decide) rfl ?_
        replace hf := vb_e hf
        generalize w32 (u32 + 1) = z33 at hf ⊢
        refine p_goto (tgt := 79) dX11_finest_228 (by decide) ?_
        refine p_sub (ls' := [(0, vr 11 a0 0), (1, vi u24), (2, vi u25), (3, vi u26), (4, vi u27), (5, vi u28), (6, vi u29), (7, vl u30), (9, vl u31), (11, vi z33)]) [1, 2, 3, 4, 5, 6, 7, 8, 9, 0] rfl ?_
        exact ih _ _ _ _ _ _ _ _ _ _ hf
def w_X11_finest_249 (K : Int → Hh → Prop) (B : Int → Int → Int → Int → Int → Hh → Prop) (a0 : Int) (v1 v2 v3 v5 v6 : Int) (h : Hh) : Prop := vb (w32 (v6 + 1)) fun z41 => B v1 v2 v3 v5 z41 h
set_option maxRecDepth 100000 in
set_option maxHeartbeats 4000000 in
theorem t_X11_finest_249 {G : Gx} {n0 : Int} {K : Int → Hh → Prop} {B : Int → Int → Int → Int → Int → Hh → Prop} {a0 : Int} (h0 : 0 ≤ a0) (hB : ∀ (v1 v2 v3 v5 v6 : Int) (h : Hh), B v1 v2 v3 v5 v6 h → PW G M_X11_finest rm_X11_finest 0 0 [] n0 K 57 [(0, vr 11 a0 0), (1, vi v1), (2, vi v2), (3, vi v3), (5, vi v5), (6, vi v6)] [] [] 0 0 h)  (v1 v2 v3 v5 v6 : Int) (h : Hh) (hf : w_X11_finest_249 K B a0 v1 v2 v3 v5 v6 h) : PW G M_X11_finest rm_X11_finest 0 0 [] n0 K 249 [(0, vr 11 a0 0), (1, vi v1), (2, vi v2), (3, vi v3), (5, vi v5), (6, vi v6)] [] [] 0 0 h := by
  unfold w_X11_finest_249 at hf
  refine p_iinc (ls' := [(6, vi (w32 (v6 + 1))), (0, vr 11 a0 0), (1, vi v1), (2, vi v2), (3, vi v3), (5, vi v5)]) dX11_finest_249 5 rfl (by decide) rfl ?_
  replace hf := vb_e hf
  generalize w32 (v6 + 1) = z41 at hf ⊢
  refine p_goto (tgt := 57) dX11_finest_252 (by decide) ?_
  refine p_sub (ls' := [(0, vr 11 a0 0), (1, vi v1), (2, vi v2), (3, vi v3), (5, vi v5), (6, vi z41)]) [1, 2, 3, 4, 5, 0] rfl ?_
  exact hB _ _ _ _ _ _ hf
def w_X11_finest_57 (K : Int → Hh → Prop) (a0 : Int) : Nat → Int → Int → Int → Int → Int → Hh → Prop
  | 0, _, _, _, _, _, _ => False
  | n + 1, v1, v2, v3, v5, v6, h => w_X11_pagesOf a0 v1 h (fun r9 h10 => if v6 ≥ r9 then (K v5 h10) else (w_X11_finest_79 K (fun u35 u36 u37 u38 u39 u40 h34 => if u38 ≠ (-1) then (if u40 ≠ u37 then (w_X11_finest_249 K (w_X11_finest_57 K  a0 n) a0 u35 u36 u37 u39 u40 h34) else (w_X11_finest_249 K (w_X11_finest_57 K  a0 n) a0 u35 u36 u37 u38 u40 h34)) else (K (-1) h34)) a0 NF v1 v2 v3 (-1) v5 v6 0 1 0 h10))
set_option maxRecDepth 100000 in
set_option maxHeartbeats 4000000 in
theorem t_X11_finest_57 {G : Gx} {n0 : Int} {K : Int → Hh → Prop} {a0 : Int} (h0 : 0 ≤ a0) : ∀ (n : Nat) (v1 v2 v3 v5 v6 : Int) (h : Hh), w_X11_finest_57 K  a0 n v1 v2 v3 v5 v6 h → PW G M_X11_finest rm_X11_finest 0 0 [] n0 K 57 [(0, vr 11 a0 0), (1, vi v1), (2, vi v2), (3, vi v3), (5, vi v5), (6, vi v6)] [] [] 0 0 h := by
  intro n
  induction n with
  | zero =>
    intro v1 v2 v3 v5 v6 h hf
    rw [w_X11_finest_57] at hf
    exact hf.elim
  | succ n ih =>
    intro v1 v2 v3 v5 v6 h hf
    rw [w_X11_finest_57] at hf
    refine p_iload dX11_finest_57 5 rfl ?_
    refine p_aload_n dX11_finest_59 rfl 0 rfl ?_
    refine p_iload_n dX11_finest_60 rfl 1 rfl ?_
    refine p_callVi dX11_finest_61 M_X11_pagesOf (Or.inl rfl) [vi v1] (t_X11_pagesOf _ _ _ _ h0 hf) ok_X11_pagesOf rfl (c := 11) (by decide) h0 rfl tb_1211 ⟨tb_1213, ts_87⟩ rfl (Nat.le_of_ble_eq_true rfl) ⟨rfl, rfl⟩ ⟨by decide, by decide⟩ ⟨by decide, by decide⟩ (fun r9 h10 hf => ?_)
    refine p_icmp_ge (tgt := 255) (q := v6 ≥ r9) dX11_finest_64 (by decide) Iff.rfl (fun hc => ?_) (fun hc => ?_)
    · replace hf := Eq.mp (if_pos hc) hf
      refine p_iload dX11_finest_255 4 rfl ?_
      exact p_iret dX11_finest_257 rfl (by decide) (by decide) (fun _ h => absurd h List.not_mem_nil) hf
    · replace hf := Eq.mp (if_neg hc) hf
      refine p_iconst dX11_finest_67 (by decide) ?_
      refine p_istore (ls' := [(4, vi (-1)), (0, vr 11 a0 0), (1, vi v1), (2, vi v2), (3, vi v3), (5, vi v5), (6, vi v6)]) dX11_finest_68 (by decide) rfl ?_
      refine p_lconst (z := 0) dX11_finest_70 rfl ?_
      refine p_lstore (ls' := [(7, vl 0), (4, vi (-1)), (0, vr 11 a0 0), (1, vi v1), (2, vi v2), (3, vi v3), (5, vi v5), (6, vi v6)]) dX11_finest_71 (by decide) rfl ?_
      refine p_lconst (z := 1) dX11_finest_73 rfl ?_
      refine p_lstore (ls' := [(9, vl 1), (7, vl 0), (4, vi (-1)), (0, vr 11 a0 0), (1, vi v1), (2, vi v2), (3, vi v3), (5, vi v5), (6, vi v6)]) dX11_finest_74 (by decide) rfl ?_
      refine p_iconst dX11_finest_76 (by decide) ?_
      refine p_istore (ls' := [(11, vi 0), (9, vl 1), (7, vl 0), (4, vi (-1)), (0, vr 11 a0 0), (1, vi v1), (2, vi v2), (3, vi v3), (5, vi v5), (6, vi v6)]) dX11_finest_77 (by decide) rfl ?_
      refine p_sub (ls' := [(0, vr 11 a0 0), (1, vi v1), (2, vi v2), (3, vi v3), (4, vi (-1)), (5, vi v5), (6, vi v6), (7, vl 0), (9, vl 1), (11, vi 0)]) [4, 5, 6, 7, 3, 8, 9, 2, 1, 0] rfl ?_
      refine t_X11_finest_79 h0 ?_ NF _ _ _ _ _ _ _ _ _ _ hf
      · intro u35 u36 u37 u38 u39 u40 h34 hf
        refine p_iload dX11_finest_231 4 rfl ?_
        refine p_iconst dX11_finest_233 (by decide) ?_
        refine p_icmp_ne (tgt := 239) (q := u38 ≠ (-1)) dX11_finest_234 (by decide) Iff.rfl (fun hc => ?_) (fun hc => ?_)
        · replace hf := Eq.mp (if_pos hc) hf
          refine p_iload dX11_finest_239 6 rfl ?_
          refine p_iload_n dX11_finest_241 rfl 3 rfl ?_
          refine p_icmp_ne (tgt := 249) (q := u40 ≠ u37) dX11_finest_242 (by decide) Iff.rfl (fun hc => ?_) (fun hc => ?_)
          · replace hf := Eq.mp (if_pos hc) hf
            refine p_sub (ls' := [(0, vr 11 a0 0), (1, vi u35), (2, vi u36), (3, vi u37), (5, vi u39), (6, vi u40)]) [0, 1, 2, 3, 5, 6] rfl ?_
            exact t_X11_finest_249 h0 ih _ _ _ _ _ _ hf
          · replace hf := Eq.mp (if_neg hc) hf
            refine p_iload dX11_finest_245 4 rfl ?_
            refine p_istore (ls' := [(5, vi u38), (0, vr 11 a0 0), (1, vi u35), (2, vi u36), (3, vi u37), (4, vi u38), (6, vi u40)]) dX11_finest_247 (by decide) rfl ?_
            refine p_sub (ls' := [(0, vr 11 a0 0), (1, vi u35), (2, vi u36), (3, vi u37), (5, vi u38), (6, vi u40)]) [1, 2, 3, 4, 0, 6] rfl ?_
            exact t_X11_finest_249 h0 ih _ _ _ _ _ _ hf
        · replace hf := Eq.mp (if_neg hc) hf
          refine p_iconst dX11_finest_237 (by decide) ?_
          exact p_iret dX11_finest_238 rfl (by decide) (by decide) (fun _ h => absurd h List.not_mem_nil) hf
def w_X11_finest (a0 x1 x2 x3 : Int) (h : Hh) (K : Int → Hh → Prop) : Prop := w_X11_isChart a0 x1 h (fun r1 h2 => if r1 = 0 then (w_X11_finest_46 K  a0  h2) else (w_X11_in x2 10 30000 h2 (fun r3 h4 => if r3 = 0 then (w_X11_finest_46 K  a0  h4) else (w_X11_pagesOf a0 x1 h4 (fun r5 h6 => w_X11_in x3 0 (w32 (r5 - 1)) h6 (fun r7 h8 => if r7 = 0 then (w_X11_finest_46 K  a0  h8) else (if h8 a0 42 ≠ 0 then (w_X11_finest_57 K  a0 NF x1 x2 x3 (-1) 0 h8) else (w_X11_finest_46 K  a0  h8))))))))
set_option maxRecDepth 100000 in
set_option maxHeartbeats 4000000 in
theorem t_X11_finest {G : Gx} (a0 x1 x2 x3 : Int) (h : Hh) (K : Int → Hh → Prop) (h0 : 0 ≤ a0) (hf : w_X11_finest a0 x1 x2 x3 h K) : CT G M_X11_finest rm_X11_finest 0 0 [] [vr 11 a0 0, vi x1, vi x2, vi x3] h K := by
  unfold w_X11_finest at hf
  refine CT.of (ls0 := [(0, vr 11 a0 0), (1, vi x1), (2, vi x2), (3, vi x3)]) (plainFor_of_name (by decide +kernel)) (by decide +kernel) (Nat.le_of_ble_eq_true rfl) rfl rfl ?_
  refine p_aload_n dX11_finest_0 rfl 0 rfl ?_
  refine p_iload_n dX11_finest_1 rfl 1 rfl ?_
  refine p_callVi dX11_finest_2 M_X11_isChart (Or.inr rfl) [vi x1] (t_X11_isChart _ _ _ _ h0 hf) ok_X11_isChart rfl (c := 11) (by decide) h0 rfl tb_1165 ⟨tb_1167, ts_81⟩ rfl (Nat.le_of_ble_eq_true rfl) ⟨rfl, rfl⟩ ⟨by decide, by decide⟩ ⟨by decide, by decide⟩ (fun r1 h2 hf => ?_)
  refine p_if_eq (tgt := 46) (q := r1 = 0) dX11_finest_5 (by decide) Iff.rfl (fun hc => ?_) (fun hc => ?_)
  · replace hf := Eq.mp (if_pos hc) hf
    refine p_sub (ls' := []) [] rfl ?_
    exact t_X11_finest_46 h0   _ hf
  · replace hf := Eq.mp (if_neg hc) hf
    refine p_iload_n dX11_finest_8 rfl 2 rfl ?_
    refine p_i2l dX11_finest_9 ?_
    refine p_ldc2 (z := 10) dX11_finest_10 tb_1124 (by decide) ?_
    refine p_ldc2 (z := 30000) dX11_finest_13 tb_1174 (by decide) ?_
    refine p_callSi dX11_finest_16 M_X11_in (Or.inr rfl) [vl x2, vl 10, vl 30000] (t_X11_in _ _ _ _ _ hf) ok_X11_in rfl tb_1079 tb_1080 rfl (Nat.le_of_ble_eq_true rfl) ⟨rfl, rfl⟩ ⟨by decide, by decide⟩ ⟨by decide, by decide⟩ (fun r3 h4 hf => ?_)
    refine p_if_eq (tgt := 46) (q := r3 = 0) dX11_finest_19 (by decide) Iff.rfl (fun hc => ?_) (fun hc => ?_)
    · replace hf := Eq.mp (if_pos hc) hf
      refine p_sub (ls' := []) [] rfl ?_
      exact t_X11_finest_46 h0   _ hf
    · replace hf := Eq.mp (if_neg hc) hf
      refine p_iload_n dX11_finest_22 rfl 3 rfl ?_
      refine p_i2l dX11_finest_23 ?_
      refine p_lconst (z := 0) dX11_finest_24 rfl ?_
      refine p_aload_n dX11_finest_25 rfl 0 rfl ?_
      refine p_iload_n dX11_finest_26 rfl 1 rfl ?_
      refine p_callVi dX11_finest_27 M_X11_pagesOf (Or.inl rfl) [vi x1] (t_X11_pagesOf _ _ _ _ h0 hf) ok_X11_pagesOf rfl (c := 11) (by decide) h0 rfl tb_1211 ⟨tb_1213, ts_87⟩ rfl (Nat.le_of_ble_eq_true rfl) ⟨rfl, rfl⟩ ⟨by decide, by decide⟩ ⟨by decide, by decide⟩ (fun r5 h6 hf => ?_)
      refine p_iconst dX11_finest_30 (by decide) ?_
      refine p_isub dX11_finest_31 ?_
      refine p_i2l dX11_finest_32 ?_
      refine p_callSi dX11_finest_33 M_X11_in (Or.inr rfl) [vl x3, vl 0, vl (w32 (r5 - 1))] (t_X11_in _ _ _ _ _ hf) ok_X11_in rfl tb_1079 tb_1080 rfl (Nat.le_of_ble_eq_true rfl) ⟨rfl, rfl⟩ ⟨by decide, by decide⟩ ⟨by decide, by decide⟩ (fun r7 h8 hf => ?_)
      refine p_if_eq (tgt := 46) (q := r7 = 0) dX11_finest_36 (by decide) Iff.rfl (fun hc => ?_) (fun hc => ?_)
      · replace hf := Eq.mp (if_pos hc) hf
        refine p_sub (ls' := []) [] rfl ?_
        exact t_X11_finest_46 h0   _ hf
      · replace hf := Eq.mp (if_neg hc) hf
        refine p_aload_n dX11_finest_39 rfl 0 rfl ?_
        refine p_get (c := 11) (vi (h8 a0 42)) dX11_finest_40 42 tb_935 (by decide) (by decide) (Or.inl rfl) h0 rfl rfl ?_
        refine p_if_ne (tgt := 48) (q := h8 a0 42 ≠ 0) dX11_finest_43 (by decide) Iff.rfl (fun hc => ?_) (fun hc => ?_)
        · replace hf := Eq.mp (if_pos hc) hf
          refine p_iconst dX11_finest_48 (by decide) ?_
          refine p_istore (ls' := [(4, vi (-1)), (0, vr 11 a0 0), (1, vi x1), (2, vi x2), (3, vi x3)]) dX11_finest_49 (by decide) rfl ?_
          refine p_iconst dX11_finest_51 (by decide) ?_
          refine p_istore (ls' := [(5, vi (-1)), (4, vi (-1)), (0, vr 11 a0 0), (1, vi x1), (2, vi x2), (3, vi x3)]) dX11_finest_52 (by decide) rfl ?_
          refine p_iconst dX11_finest_54 (by decide) ?_
          refine p_istore (ls' := [(6, vi 0), (5, vi (-1)), (4, vi (-1)), (0, vr 11 a0 0), (1, vi x1), (2, vi x2), (3, vi x3)]) dX11_finest_55 (by decide) rfl ?_
          refine p_sub (ls' := [(0, vr 11 a0 0), (1, vi x1), (2, vi x2), (3, vi x3), (5, vi (-1)), (6, vi 0)]) [3, 4, 5, 6, 1, 0] rfl ?_
          refine t_X11_finest_57 h0  NF _ _ _ _ _ _ hf
        · replace hf := Eq.mp (if_neg hc) hf
          refine p_sub (ls' := []) [] rfl ?_
          exact t_X11_finest_46 h0   _ hf
theorem ok_X11_finest : mOK M_X11_finest 3 := ⟨tb_1277, tb_9, by decide +kernel⟩
abbrev M_X11_go : MD := (yX11_go, cX11_go, 2, some .int)
abbrev rm_X11_go : Room := { frames := 1, cells := 0, slots := 0, locals := 25 }
def w_X11_go_39 (K : Int → Hh → Prop) (a0 : Int) (s0 s1 : Int) (h : Hh) : Prop := 0 ≤ s1 ∧ (hb (up h s1 29 s0) fun h4 => K (h4 a0 29) h4)
set_option maxRecDepth 100000 in
set_option maxHeartbeats 4000000 in
theorem t_X11_go_39 {G : Gx} {n0 : Int} {K : Int → Hh → Prop} {a0 : Int} (h0 : 0 ≤ a0)  (s0 s1 : Int) (h : Hh) (hf : w_X11_go_39 K  a0 s0 s1 h) : PW G M_X11_go rm_X11_go 0 0 [] n0 K 39 [(0, vr 11 a0 0)] [vi s0, vr 11 s1 0] [] 0 0 h := by
  unfold w_X11_go_39 at hf
  obtain ⟨c3, hf⟩ := hf
  refine p_puti (c := 11) dX11_go_39 29 tb_922 (by decide) (by decide) (Or.inl rfl) c3 rfl rfl (fun _ => by decide) (up h s1 29 s0) rfl ?_
  replace hf := hb_e hf
  generalize up h s1 29 s0 = h4 at hf ⊢
  refine p_aload_n dX11_go_42 rfl 0 rfl ?_
  refine p_get (c := 11) (vi (h4 a0 29)) dX11_go_43 29 tb_922 (by decide) (by decide) (Or.inl rfl) h0 rfl rfl ?_
  exact p_iret dX11_go_46 rfl (by decide) (by decide) (fun _ h => absurd h List.not_mem_nil) hf
def w_X11_go (a0 x1 : Int) (h : Hh) (K : Int → Hh → Prop) : Prop := w_X11_in x1 0 50 h (fun r1 h2 => if r1 ≠ 0 then (if w32 ((h2 a0 29) + x1) ≤ 300 then (w_X11_go_39 K  a0 (w32 ((h2 a0 29) + x1)) a0 h2) else (w_X11_go_39 K  a0 300 a0 h2)) else (K (-1) h2))
set_option maxRecDepth 100000 in
set_option maxHeartbeats 4000000 in
theorem t_X11_go {G : Gx} (a0 x1 : Int) (h : Hh) (K : Int → Hh → Prop) (h0 : 0 ≤ a0) (hf : w_X11_go a0 x1 h K) : CT G M_X11_go rm_X11_go 0 0 [] [vr 11 a0 0, vi x1] h K := by
  unfold w_X11_go at hf
  refine CT.of (ls0 := [(0, vr 11 a0 0), (1, vi x1)]) (plainFor_of_name (by decide +kernel)) (by decide +kernel) (Nat.le_of_ble_eq_true rfl) rfl rfl ?_
  refine p_iload_n dX11_go_0 rfl 1 rfl ?_
  refine p_i2l dX11_go_1 ?_
  refine p_lconst (z := 0) dX11_go_2 rfl ?_
  refine p_ldc2 (z := 50) dX11_go_3 tb_1160 (by decide) ?_
  refine p_callSi dX11_go_6 M_X11_in (Or.inr rfl) [vl x1, vl 0, vl 50] (t_X11_in _ _ _ _ _ hf) ok_X11_in rfl tb_1079 tb_1080 rfl (Nat.le_of_ble_eq_true rfl) ⟨rfl, rfl⟩ ⟨by decide, by decide⟩ ⟨by decide, by decide⟩ (fun r1 h2 hf => ?_)
  refine p_if_ne (tgt := 14) (q := r1 ≠ 0) dX11_go_9 (by decide) Iff.rfl (fun hc => ?_) (fun hc => ?_)
  · replace hf := Eq.mp (if_pos hc) hf
    refine p_aload_n dX11_go_14 rfl 0 rfl ?_
    refine p_aload_n dX11_go_15 rfl 0 rfl ?_
    refine p_get (c := 11) (vi (h2 a0 29)) dX11_go_16 29 tb_922 (by decide) (by decide) (Or.inl rfl) h0 rfl rfl ?_
    refine p_iload_n dX11_go_19 rfl 1 rfl ?_
    refine p_iadd dX11_go_20 ?_
    refine p_sipush dX11_go_21 (by decide) (by decide) ?_
    refine p_icmp_le (tgt := 33) (q := w32 ((h2 a0 29) + x1) ≤ 300) dX11_go_24 (by decide) Iff.rfl (fun hc => ?_) (fun hc => ?_)
    · replace hf := Eq.mp (if_pos hc) hf
      refine p_aload_n dX11_go_33 rfl 0 rfl ?_
      refine p_get (c := 11) (vi (h2 a0 29)) dX11_go_34 29 tb_922 (by decide) (by decide) (Or.inl rfl) h0 rfl rfl ?_
      refine p_iload_n dX11_go_37 rfl 1 rfl ?_
      refine p_iadd dX11_go_38 ?_
      refine p_sub (ls' := [(0, vr 11 a0 0)]) [0] rfl ?_
      exact t_X11_go_39 h0  _ _ _ hf
    · replace hf := Eq.mp (if_neg hc) hf
      refine p_sipush dX11_go_27 (by decide) (by decide) ?_
      refine p_goto (tgt := 39) dX11_go_30 (by decide) ?_
      refine p_sub (ls' := [(0, vr 11 a0 0)]) [0] rfl ?_
      exact t_X11_go_39 h0  _ _ _ hf
  · replace hf := Eq.mp (if_neg hc) hf
    refine p_iconst dX11_go_12 (by decide) ?_
    exact p_iret dX11_go_13 rfl (by decide) (by decide) (fun _ h => absurd h List.not_mem_nil) hf
theorem ok_X11_go : mOK M_X11_go 1 := ⟨tb_1282, tb_9, by decide +kernel⟩
abbrev M_X11_move : MD := (yX11_move, cX11_move, 5, some .int)
abbrev rm_X11_move : Room := { frames := 2, cells := 0, slots := 0, locals := 46 }
def w_X11_move_82 (K : Int → Hh → Prop) (a0 : Int) (h : Hh) : Prop := K (-1) h
set_option maxRecDepth 100000 in
set_option maxHeartbeats 4000000 in
theorem t_X11_move_82 {G : Gx} {n0 : Int} {K : Int → Hh → Prop} {a0 : Int} (h0 : 0 ≤ a0)  (h : Hh) (hf : w_X11_move_82 K  a0  h) : PW G M_X11_move rm_X11_move 0 0 [] n0 K 82 [] [] [] 0 0 h := by
  unfold w_X11_move_82 at hf
  refine p_iconst dX11_move_82 (by decide) ?_
  exact p_iret dX11_move_83 rfl (by decide) (by decide) (fun _ h => absurd h List.not_mem_nil) hf
def w_X11_move (a0 x1 x2 x3 x4 : Int) (h : Hh) (K : Int → Hh → Prop) : Prop := w_X11_isChart a0 x1 h (fun r1 h2 => if r1 = 0 then (w_X11_move_82 K  a0  h2) else (((0 : Int) ≤ x1 ∧ (x1 : Int) < 6) ∧ (((0 : Int) ≤ h2 (a0 + 11) x1 ∧ (h2 (a0 + 11) x1 : Int) < 6) ∧ (w_X11_in x2 1 (w32 ((h2 (a0 + 5) (h2 (a0 + 11) x1)) - 1)) h2 (fun r5 h6 => if r5 = 0 then (w_X11_move_82 K  a0  h6) else (((0 : Int) ≤ w32 ((w32 (5 * (h6 (a0 + 11) x1))) + x2) ∧ (w32 ((w32 (5 * (h6 (a0 + 11) x1))) + x2) : Int) < 30) ∧ (w_X11_in x3 0 (w32 ((h6 (a0 + 9) (w32 ((w32 (5 * (h6 (a0 + 11) x1))) + x2))) - 1)) h6 (fun r8 h9 => if r8 = 0 then (w_X11_move_82 K  a0  h9) else (w_X11_in x4 (-99999) 99999 h9 (fun r10 h11 => if r10 = 0 then (w_X11_move_82 K  a0  h11) else (if h11 a0 30 ≠ 40 then (((0 : Int) ≤ h11 a0 30 ∧ (h11 a0 30 : Int) < 40) ∧ (hb (up h11 (a0 + 20) (h11 a0 30) x1) fun h13 => ((0 : Int) ≤ h13 a0 30 ∧ (h13 a0 30 : Int) < 40) ∧ (hb (up h13 (a0 + 21) (h13 a0 30) x2) fun h15 => ((0 : Int) ≤ h15 a0 30 ∧ (h15 a0 30 : Int) < 40) ∧ (hb (up h15 (a0 + 22) (h15 a0 30) x3) fun h17 => ((0 : Int) ≤ h17 a0 30 ∧ (h17 a0 30 : Int) < 40) ∧ (hb (up h17 (a0 + 23) (h17 a0 30) x4) fun h19 => ((0 : Int) ≤ h19 a0 30 ∧ (h19 a0 30 : Int) < 40) ∧ (hb (up h19 (a0 + 24) (h19 a0 30) (h19 a0 29)) fun h21 => hb (up h21 a0 30 (w32 ((h21 a0 30) + 1))) fun h22 => K (h22 a0 30) h22)))))) else (w_X11_move_82 K  a0  h11))))))))))))
set_option maxRecDepth 100000 in
set_option maxHeartbeats 4000000 in
theorem t_X11_move {G : Gx} (a0 x1 x2 x3 x4 : Int) (h : Hh) (K : Int → Hh → Prop) (h0 : 0 ≤ a0) (hf : w_X11_move a0 x1 x2 x3 x4 h K) : CT G M_X11_move rm_X11_move 0 0 [] [vr 11 a0 0, vi x1, vi x2, vi x3, vi x4] h K := by
  unfold w_X11_move at hf
  refine CT.of (ls0 := [(0, vr 11 a0 0), (1, vi x1), (2, vi x2), (3, vi x3), (4, vi x4)]) (plainFor_of_name (by decide +kernel)) (by decide +kernel) (Nat.le_of_ble_eq_true rfl) rfl rfl ?_
  refine p_aload_n dX11_move_0 rfl 0 rfl ?_
  refine p_iload_n dX11_move_1 rfl 1 rfl ?_
  refine p_callVi dX11_move_2 M_X11_isChart (Or.inr rfl) [vi x1] (t_X11_isChart _ _ _ _ h0 hf) ok_X11_isChart rfl (c := 11) (by decide) h0 rfl tb_1165 ⟨tb_1167, ts_81⟩ rfl (Nat.le_of_ble_eq_true rfl) ⟨rfl, rfl⟩ ⟨by decide, by decide⟩ ⟨by decide, by decide⟩ (fun r1 h2 hf => ?_)
  refine p_if_eq (tgt := 82) (q := r1 = 0) dX11_move_5 (by decide) Iff.rfl (fun hc => ?_) (fun hc => ?_)
  · replace hf := Eq.mp (if_pos hc) hf
    refine p_sub (ls' := []) [] rfl ?_
    exact t_X11_move_82 h0   _ hf
  · replace hf := Eq.mp (if_neg hc) hf
    refine p_iload_n dX11_move_8 rfl 2 rfl ?_
    refine p_i2l dX11_move_9 ?_
    refine p_lconst (z := 1) dX11_move_10 rfl ?_
    refine p_aload_n dX11_move_11 rfl 0 rfl ?_
    refine p_lay (c := 11) (tq := 100) (n := 6) dX11_move_12 12 5 tb_905 (by decide) (by decide) h0 (by decide) (by decide) (fun _ => rfl) (vr 100 (a0 + 5) 6) rfl ?_
    refine p_aload_n dX11_move_15 rfl 0 rfl ?_
    refine p_lay (c := 11) (tq := 100) (n := 6) dX11_move_16 19 11 tb_912 (by decide) (by decide) h0 (by decide) (by decide) (fun _ => rfl) (vr 100 (a0 + 11) 6) rfl ?_
    refine p_iload_n dX11_move_19 rfl 1 rfl ?_
    obtain ⟨c3, hf⟩ := hf
    refine p_iald dX11_move_20 (nnk h0 (by decide)) c3 ?_
    obtain ⟨c4, hf⟩ := hf
    refine p_iald dX11_move_21 (nnk h0 (by decide)) c4 ?_
    refine p_iconst dX11_move_22 (by decide) ?_
    refine p_isub dX11_move_23 ?_
    refine p_i2l dX11_move_24 ?_
    refine p_callSi dX11_move_25 M_X11_in (Or.inr rfl) [vl x2, vl 1, vl (w32 ((h2 (a0 + 5) (h2 (a0 + 11) x1)) - 1))] (t_X11_in _ _ _ _ _ hf) ok_X11_in rfl tb_1079 tb_1080 rfl (Nat.le_of_ble_eq_true rfl) ⟨rfl, rfl⟩ ⟨by decide, by decide⟩ ⟨by decide, by decide⟩ (fun r5 h6 hf => ?_)
    refine p_if_eq (tgt := 82) (q := r5 = 0) dX11_move_28 (by decide) Iff.rfl (fun hc => ?_) (fun hc => ?_)
    · replace hf := Eq.mp (if_pos hc) hf
      refine p_sub (ls' := []) [] rfl ?_
      exact t_X11_move_82 h0   _ hf
    · replace hf := Eq.mp (if_neg hc) hf
      refine p_iload_n dX11_move_31 rfl 3 rfl ?_
      refine p_i2l dX11_move_32 ?_
      refine p_lconst (z := 0) dX11_move_33 rfl ?_
      refine p_aload_n dX11_move_34 rfl 0 rfl ?_
      refine p_lay (c := 11) (tq := 100) (n := 30) dX11_move_35 16 9 tb_909 (by decide) (by decide) h0 (by decide) (by decide) (fun _ => rfl) (vr 100 (a0 + 9) 30) rfl ?_
      refine p_iconst dX11_move_38 (by decide) ?_
      refine p_aload_n dX11_move_39 rfl 0 rfl ?_
      refine p_lay (c := 11) (tq := 100) (n := 6) dX11_move_40 19 11 tb_912 (by decide) (by decide) h0 (by decide) (by decide) (fun _ => rfl) (vr 100 (a0 + 11) 6) rfl ?_
      refine p_iload_n dX11_move_43 rfl 1 rfl ?_
      refine p_iald dX11_move_44 (nnk h0 (by decide)) c3 ?_
      refine p_imul dX11_move_45 ?_
      refine p_iload_n dX11_move_46 rfl 2 rfl ?_
      refine p_iadd dX11_move_47 ?_
      obtain ⟨c7, hf⟩ := hf
      refine p_iald dX11_move_48 (nnk h0 (by decide)) c7 ?_
      refine p_iconst dX11_move_49 (by decide) ?_
      refine p_isub dX11_move_50 ?_
      refine p_i2l dX11_move_51 ?_
      refine p_callSi dX11_move_52 M_X11_in (Or.inr rfl) [vl x3, vl 0, vl (w32 ((h6 (a0 + 9) (w32 ((w32 (5 * (h6 (a0 + 11) x1))) + x2))) - 1))] (t_X11_in _ _ _ _ _ hf) ok_X11_in rfl tb_1079 tb_1080 rfl (Nat.le_of_ble_eq_true rfl) ⟨rfl, rfl⟩ ⟨by decide, by decide⟩ ⟨by decide, by decide⟩ (fun r8 h9 hf => ?_)
      refine p_if_eq (tgt := 82) (q := r8 = 0) dX11_move_55 (by decide) Iff.rfl (fun hc => ?_) (fun hc => ?_)
      · replace hf := Eq.mp (if_pos hc) hf
        refine p_sub (ls' := []) [] rfl ?_
        exact t_X11_move_82 h0   _ hf
      · replace hf := Eq.mp (if_neg hc) hf
        refine p_iload dX11_move_58 4 rfl ?_
        refine p_i2l dX11_move_60 ?_
        refine p_ldc2 (z := (-99999)) dX11_move_61 tb_1287 (by decide) ?_
        refine p_ldc2 (z := 99999) dX11_move_64 tb_1288 (by decide) ?_
        refine p_callSi dX11_move_67 M_X11_in (Or.inr rfl) [vl x4, vl (-99999), vl 99999] (t_X11_in _ _ _ _ _ hf) ok_X11_in rfl tb_1079 tb_1080 rfl (Nat.le_of_ble_eq_true rfl) ⟨rfl, rfl⟩ ⟨by decide, by decide⟩ ⟨by decide, by decide⟩ (fun r10 h11 hf => ?_)
        refine p_if_eq (tgt := 82) (q := r10 = 0) dX11_move_70 (by decide) Iff.rfl (fun hc => ?_) (fun hc => ?_)
        · replace hf := Eq.mp (if_pos hc) hf
          refine p_sub (ls' := []) [] rfl ?_
          exact t_X11_move_82 h0   _ hf
        · replace hf := Eq.mp (if_neg hc) hf
          refine p_aload_n dX11_move_73 rfl 0 rfl ?_
          refine p_get (c := 11) (vi (h11 a0 30)) dX11_move_74 30 tb_923 (by decide) (by decide) (Or.inl rfl) h0 rfl rfl ?_
          refine p_bipush dX11_move_77 (by decide) (by decide) ?_
          refine p_icmp_ne (tgt := 84) (q := h11 a0 30 ≠ 40) dX11_move_79 (by decide) Iff.rfl (fun hc => ?_) (fun hc => ?_)
          · replace hf := Eq.mp (if_pos hc) hf
            refine p_aload_n dX11_move_84 rfl 0 rfl ?_
            refine p_lay (c := 11) (tq := 100) (n := 40) dX11_move_85 31 20 tb_924 (by decide) (by decide) h0 (by decide) (by decide) (fun _ => rfl) (vr 100 (a0 + 20) 40) rfl ?_
            refine p_aload_n dX11_move_88 rfl 0 rfl ?_
            refine p_get (c := 11) (vi (h11 a0 30)) dX11_move_89 30 tb_923 (by decide) (by decide) (Or.inl rfl) h0 rfl rfl ?_
            refine p_iload_n dX11_move_92 rfl 1 rfl ?_
            obtain ⟨c12, hf⟩ := hf
            refine p_iast dX11_move_93 (nnk h0 (by decide)) c12 ?_
            replace hf := hb_e hf
            generalize up h11 (a0 + 20) (h11 a0 30) x1 = h13 at hf ⊢
            refine p_aload_n dX11_move_94 rfl 0 rfl ?_
            refine p_lay (c := 11) (tq := 100) (n := 40) dX11_move_95 32 21 tb_925 (by decide) (by decide) h0 (by decide) (by decide) (fun _ => rfl) (vr 100 (a0 + 21) 40) rfl ?_
            refine p_aload_n dX11_move_98 rfl 0 rfl ?_
            refine p_get (c := 11) (vi (h13 a0 30)) dX11_move_99 30 tb_923 (by decide) (by decide) (Or.inl rfl) h0 rfl rfl ?_
            refine p_iload_n dX11_move_102 rfl 2 rfl ?_
            obtain ⟨c14, hf⟩ := hf
            refine p_iast dX11_move_103 (nnk h0 (by decide)) c14 ?_
            replace hf := hb_e hf
            generalize up h13 (a0 + 21) (h13 a0 30) x2 = h15 at hf ⊢
            refine p_aload_n dX11_move_104 rfl 0 rfl ?_
            refine p_lay (c := 11) (tq := 100) (n := 40) dX11_move_105 33 22 tb_926 (by decide) (by decide) h0 (by decide) (by decide) (fun _ => rfl) (vr 100 (a0 + 22) 40) rfl ?_
            refine p_aload_n dX11_move_108 rfl 0 rfl ?_
            refine p_get (c := 11) (vi (h15 a0 30)) dX11_move_109 30 tb_923 (by decide) (by decide) (Or.inl rfl) h0 rfl rfl ?_
            refine p_iload_n dX11_move_112 rfl 3 rfl ?_
            obtain ⟨c16, hf⟩ := hf
            refine p_iast dX11_move_113 (nnk h0 (by decide)) c16 ?_
            replace hf := hb_e hf
            generalize up h15 (a0 + 22) (h15 a0 30) x3 = h17 at hf ⊢
            refine p_aload_n dX11_move_114 rfl 0 rfl ?_
            refine p_lay (c := 11) (tq := 100) (n := 40) dX11_move_115 34 23 tb_927 (by decide) (by decide) h0 (by decide) (by decide) (fun _ => rfl) (vr 100 (a0 + 23) 40) rfl ?_
            refine p_aload_n dX11_move_118 rfl 0 rfl ?_
            refine p_get (c := 11) (vi (h17 a0 30)) dX11_move_119 30 tb_923 (by decide) (by decide) (Or.inl rfl) h0 rfl rfl ?_
            refine p_iload dX11_move_122 4 rfl ?_
            obtain ⟨c18, hf⟩ := hf
            refine p_iast dX11_move_124 (nnk h0 (by decide)) c18 ?_
            replace hf := hb_e hf
            generalize up h17 (a0 + 23) (h17 a0 30) x4 = h19 at hf ⊢
            refine p_aload_n dX11_move_125 rfl 0 rfl ?_
            refine p_lay (c := 11) (tq := 100) (n := 40) dX11_move_126 35 24 tb_928 (by decide) (by decide) h0 (by decide) (by decide) (fun _ => rfl) (vr 100 (a0 + 24) 40) rfl ?_
            refine p_aload_n dX11_move_129 rfl 0 rfl ?_
            refine p_get (c := 11) (vi (h19 a0 30)) dX11_move_130 30 tb_923 (by decide) (by decide) (Or.inl rfl) h0 rfl rfl ?_
            refine p_aload_n dX11_move_133 rfl 0 rfl ?_
            refine p_get (c := 11) (vi (h19 a0 29)) dX11_move_134 29 tb_922 (by decide) (by decide) (Or.inl rfl) h0 rfl rfl ?_
            obtain ⟨c20, hf⟩ := hf
            refine p_iast dX11_move_137 (nnk h0 (by decide)) c20 ?_
            replace hf := hb_e hf
            generalize up h19 (a0 + 24) (h19 a0 30) (h19 a0 29) = h21 at hf ⊢
            refine p_aload_n dX11_move_138 rfl 0 rfl ?_
            refine p_dup dX11_move_139 (fun _ q => by cases q) ?_
            refine p_get (c := 11) (vi (h21 a0 30)) dX11_move_140 30 tb_923 (by decide) (by decide) (Or.inl rfl) h0 rfl rfl ?_
            refine p_iconst dX11_move_143 (by decide) ?_
            refine p_iadd dX11_move_144 ?_
            refine p_puti (c := 11) dX11_move_145 30 tb_923 (by decide) (by decide) (Or.inl rfl) h0 rfl rfl (fun _ => by decide) (up h21 a0 30 (w32 ((h21 a0 30) + 1))) rfl ?_
            replace hf := hb_e hf
            generalize up h21 a0 30 (w32 ((h21 a0 30) + 1)) = h22 at hf ⊢
            refine p_aload_n dX11_move_148 rfl 0 rfl ?_
            refine p_get (c := 11) (vi (h22 a0 30)) dX11_move_149 30 tb_923 (by decide) (by decide) (Or.inl rfl) h0 rfl rfl ?_
            exact p_iret dX11_move_152 rfl (by decide) (by decide) (fun _ h => absurd h List.not_mem_nil) hf
          · replace hf := Eq.mp (if_neg hc) hf
            refine p_sub (ls' := []) [] rfl ?_
            exact t_X11_move_82 h0   _ hf
theorem ok_X11_move : mOK M_X11_move 4 := ⟨tb_1286, tb_9, by decide +kernel⟩
abbrev M_X11_report : MD := (yX11_report, cX11_report, 4, some .int)
abbrev rm_X11_report : Room := { frames := 1, cells := 0, slots := 0, locals := 25 }
def w_X11_report_41 (K : Int → Hh → Prop) (a0 : Int) (h : Hh) : Prop := K (-1) h
set_option maxRecDepth 100000 in
set_option maxHeartbeats 4000000 in
theorem t_X11_report_41 {G : Gx} {n0 : Int} {K : Int → Hh → Prop} {a0 : Int} (h0 : 0 ≤ a0)  (h : Hh) (hf : w_X11_report_41 K  a0  h) : PW G M_X11_report rm_X11_report 0 0 [] n0 K 41 [] [] [] 0 0 h := by
  unfold w_X11_report_41 at hf
  refine p_iconst dX11_report_41 (by decide) ?_
  exact p_iret dX11_report_42 rfl (by decide) (by decide) (fun _ h => absurd h List.not_mem_nil) hf
def w_X11_report_68 (K : Int → Hh → Prop) (X98 : Int → Hh → Prop) (a0 : Int) : Nat → Int → Int → Hh → Prop
  | 0, _, _, _ => False
  | n + 1, v2, v3, h => if v3 ≥ 4 then (X98 v2 h) else (((0 : Int) ≤ v3 ∧ (v3 : Int) < 4) ∧ (((0 : Int) ≤ w32 ((w32 (4 * (h a0 36))) + v3) ∧ (w32 ((w32 (4 * (h a0 36))) + v3) : Int) < 240) ∧ (hb (up h (a0 + 27) (w32 ((w32 (4 * (h a0 36))) + v3)) (h (a0 + 19) v3)) fun h11 => vb (w32 (v3 + 1)) fun z12 => w_X11_report_68 K X98 a0 n v2 z12 h11)))
set_option maxRecDepth 100000 in
set_option maxHeartbeats 4000000 in
theorem t_X11_report_68 {G : Gx} {n0 : Int} {K : Int → Hh → Prop} {X98 : Int → Hh → Prop} {a0 : Int} (h0 : 0 ≤ a0) (hX98 : ∀ (v2 : Int) (h : Hh), X98 v2 h → PW G M_X11_report rm_X11_report 0 0 [] n0 K 98 [(0, vr 11 a0 0), (2, vi v2)] [] [] 0 0 h) : ∀ (n : Nat) (v2 v3 : Int) (h : Hh), w_X11_report_68 K X98 a0 n v2 v3 h → PW G M_X11_report rm_X11_report 0 0 [] n0 K 68 [(0, vr 11 a0 0), (2, vi v2), (3, vi v3)] [] [] 0 0 h := by
  intro n
  induction n with
  | zero =>
    intro v2 v3 h hf
    rw [w_X11_report_68] at hf
    exact hf.elim
  | succ n ih =>
    intro v2 v3 h hf
    rw [w_X11_report_68] at hf
    refine p_iload_n dX11_report_68 rfl 2 rfl ?_
    refine p_iconst dX11_report_69 (by decide) ?_
    refine p_icmp_ge (tgt := 98) (q := v3 ≥ 4) dX11_report_70 (by decide) Iff.rfl (fun hc => ?_) (fun hc => ?_)
    · replace hf := Eq.mp (if_pos hc) hf
      refine p_sub (ls' := [(0, vr 11 a0 0), (2, vi v2)]) [0, 1] rfl ?_
      exact hX98 _ _ hf
    · replace hf := Eq.mp (if_neg hc) hf
      refine p_aload_n dX11_report_73 rfl 0 rfl ?_
      refine p_lay (c := 11) (tq := 100) (n := 240) dX11_report_74 39 27 tb_932 (by decide) (by decide) h0 (by decide) (by decide) (fun _ => rfl) (vr 100 (a0 + 27) 240) rfl ?_
      refine p_iconst dX11_report_77 (by decide) ?_
      refine p_aload_n dX11_report_78 rfl 0 rfl ?_
      refine p_get (c := 11) (vi (h a0 36)) dX11_report_79 36 tb_929 (by decide) (by decide) (Or.inl rfl) h0 rfl rfl ?_
      refine p_imul dX11_report_82 ?_
      refine p_iload_n dX11_report_83 rfl 2 rfl ?_
      refine p_iadd dX11_report_84 ?_
      refine p_aload_n dX11_report_85 rfl 0 rfl ?_
      refine p_lay (c := 11) (tq := 100) (n := 4) dX11_report_86 28 19 tb_921 (by decide) (by decide) h0 (by decide) (by decide) (fun _ => rfl) (vr 100 (a0 + 19) 4) rfl ?_
      refine p_iload_n dX11_report_89 rfl 2 rfl ?_
      obtain ⟨c9, hf⟩ := hf
      refine p_iald dX11_report_90 (nnk h0 (by decide)) c9 ?_
      obtain ⟨c10, hf⟩ := hf
      refine p_iast dX11_report_91 (nnk h0 (by decide)) c10 ?_
      replace hf := hb_e hf
      generalize up h (a0 + 27) (w32 ((w32 (4 * (h a0 36))) + v3)) (h (a0 + 19) v3) = h11 at hf ⊢
      refine p_iinc (ls' := [(3, vi (w32 (v3 + 1))), (0, vr 11 a0 0), (2, vi v2)]) dX11_report_92 2 rfl (by decide) rfl ?_
      replace hf := vb_e hf
      generalize w32 (v3 + 1) = z12 at hf ⊢
      refine p_goto (tgt := 68) dX11_report_95 (by decide) ?_
      refine p_sub (ls' := [(0, vr 11 a0 0), (2, vi v2), (3, vi z12)]) [1, 2, 0] rfl ?_
      exact ih _ _ _ hf
def w_X11_report (a0 x1 x2 : Int) (h : Hh) (K : Int → Hh → Prop) : Prop := if h a0 27 = (-1) then (w_X11_report_41 K  a0  h) else (w_X11_in x1 0 7 h (fun r1 h2 => if r1 = 0 then (w_X11_report_41 K  a0  h2) else (w_X11_in x2 0 399 h2 (fun r3 h4 => if r3 = 0 then (w_X11_report_41 K  a0  h4) else (if h4 a0 36 ≠ 60 then (((0 : Int) ≤ h4 a0 36 ∧ (h4 a0 36 : Int) < 60) ∧ (hb (up h4 (a0 + 25) (h4 a0 36) x1) fun h6 => ((0 : Int) ≤ h6 a0 36 ∧ (h6 a0 36 : Int) < 60) ∧ (hb (up h6 (a0 + 26) (h6 a0 36) (h6 a0 27)) fun h8 => w_X11_report_68 K (fun u14 h13 => ((0 : Int) ≤ h13 a0 36 ∧ (h13 a0 36 : Int) < 60) ∧ (hb (up h13 (a0 + 28) (h13 a0 36) u14) fun h16 => ((0 : Int) ≤ h16 a0 36 ∧ (h16 a0 36 : Int) < 60) ∧ (hb (up h16 (a0 + 29) (h16 a0 36) (h16 a0 29)) fun h18 => hb (up h18 a0 36 (w32 ((h18 a0 36) + 1))) fun h19 => K (h19 a0 36) h19))) a0 NF x2 0 h8))) else (w_X11_report_41 K  a0  h4))))))
set_option maxRecDepth 100000 in
set_option maxHeartbeats 4000000 in
theorem t_X11_report {G : Gx} (a0 x1 x2 : Int) (h : Hh) (K : Int → Hh → Prop) (h0 : 0 ≤ a0) (hf : w_X11_report a0 x1 x2 h K) : CT G M_X11_report rm_X11_report 0 0 [] [vr 11 a0 0, vi x1, vi x2] h K := by
  unfold w_X11_report at hf
  refine CT.of (ls0 := [(0, vr 11 a0 0), (1, vi x1), (2, vi x2)]) (plainFor_of_name (by decide +kernel)) (by decide +kernel) (Nat.le_of_ble_eq_true rfl) rfl rfl ?_
  refine p_aload_n dX11_report_0 rfl 0 rfl ?_
  refine p_get (c := 11) (vi (h a0 27)) dX11_report_1 27 tb_920 (by decide) (by decide) (Or.inl rfl) h0 rfl rfl ?_
  refine p_iconst dX11_report_4 (by decide) ?_
  refine p_icmp_eq (tgt := 41) (q := h a0 27 = (-1)) dX11_report_5 (by decide) Iff.rfl (fun hc => ?_) (fun hc => ?_)
  · replace hf := Eq.mp (if_pos hc) hf
    refine p_sub (ls' := []) [] rfl ?_
    exact t_X11_report_41 h0   _ hf
  · replace hf := Eq.mp (if_neg hc) hf
    refine p_iload_n dX11_report_8 rfl 1 rfl ?_
    refine p_i2l dX11_report_9 ?_
    refine p_lconst (z := 0) dX11_report_10 rfl ?_
    refine p_ldc2 (z := 7) dX11_report_11 tb_1293 (by decide) ?_
    refine p_callSi dX11_report_14 M_X11_in (Or.inr rfl) [vl x1, vl 0, vl 7] (t_X11_in _ _ _ _ _ hf) ok_X11_in rfl tb_1079 tb_1080 rfl (Nat.le_of_ble_eq_true rfl) ⟨rfl, rfl⟩ ⟨by decide, by decide⟩ ⟨by decide, by decide⟩ (fun r1 h2 hf => ?_)
    refine p_if_eq (tgt := 41) (q := r1 = 0) dX11_report_17 (by decide) Iff.rfl (fun hc => ?_) (fun hc => ?_)
    · replace hf := Eq.mp (if_pos hc) hf
      refine p_sub (ls' := []) [] rfl ?_
      exact t_X11_report_41 h0   _ hf
    · replace hf := Eq.mp (if_neg hc) hf
      refine p_iload_n dX11_report_20 rfl 2 rfl ?_
      refine p_i2l dX11_report_21 ?_
      refine p_lconst (z := 0) dX11_report_22 rfl ?_
      refine p_ldc2 (z := 399) dX11_report_23 tb_1294 (by decide) ?_
      refine p_callSi dX11_report_26 M_X11_in (Or.inr rfl) [vl x2, vl 0, vl 399] (t_X11_in _ _ _ _ _ hf) ok_X11_in rfl tb_1079 tb_1080 rfl (Nat.le_of_ble_eq_true rfl) ⟨rfl, rfl⟩ ⟨by decide, by decide⟩ ⟨by decide, by decide⟩ (fun r3 h4 hf => ?_)
      refine p_if_eq (tgt := 41) (q := r3 = 0) dX11_report_29 (by decide) Iff.rfl (fun hc => ?_) (fun hc => ?_)
      · replace hf := Eq.mp (if_pos hc) hf
        refine p_sub (ls' := []) [] rfl ?_
        exact t_X11_report_41 h0   _ hf
      · replace hf := Eq.mp (if_neg hc) hf
        refine p_aload_n dX11_report_32 rfl 0 rfl ?_
        refine p_get (c := 11) (vi (h4 a0 36)) dX11_report_33 36 tb_929 (by decide) (by decide) (Or.inl rfl) h0 rfl rfl ?_
        refine p_bipush dX11_report_36 (by decide) (by decide) ?_
        refine p_icmp_ne (tgt := 43) (q := h4 a0 36 ≠ 60) dX11_report_38 (by decide) Iff.rfl (fun hc => ?_) (fun hc => ?_)
        · replace hf := Eq.mp (if_pos hc) hf
          refine p_aload_n dX11_report_43 rfl 0 rfl ?_
          refine p_lay (c := 11) (tq := 100) (n := 60) dX11_report_44 37 25 tb_930 (by decide) (by decide) h0 (by decide) (by decide) (fun _ => rfl) (vr 100 (a0 + 25) 60) rfl ?_
          refine p_aload_n dX11_report_47 rfl 0 rfl ?_
          refine p_get (c := 11) (vi (h4 a0 36)) dX11_report_48 36 tb_929 (by decide) (by decide) (Or.inl rfl) h0 rfl rfl ?_
          refine p_iload_n dX11_report_51 rfl 1 rfl ?_
          obtain ⟨c5, hf⟩ := hf
          refine p_iast dX11_report_52 (nnk h0 (by decide)) c5 ?_
          replace hf := hb_e hf
          generalize up h4 (a0 + 25) (h4 a0 36) x1 = h6 at hf ⊢
          refine p_aload_n dX11_report_53 rfl 0 rfl ?_
          refine p_lay (c := 11) (tq := 100) (n := 60) dX11_report_54 38 26 tb_931 (by decide) (by decide) h0 (by decide) (by decide) (fun _ => rfl) (vr 100 (a0 + 26) 60) rfl ?_
          refine p_aload_n dX11_report_57 rfl 0 rfl ?_
          refine p_get (c := 11) (vi (h6 a0 36)) dX11_report_58 36 tb_929 (by decide) (by decide) (Or.inl rfl) h0 rfl rfl ?_
          refine p_aload_n dX11_report_61 rfl 0 rfl ?_
          refine p_get (c := 11) (vi (h6 a0 27)) dX11_report_62 27 tb_920 (by decide) (by decide) (Or.inl rfl) h0 rfl rfl ?_
          obtain ⟨c7, hf⟩ := hf
          refine p_iast dX11_report_65 (nnk h0 (by decide)) c7 ?_
          replace hf := hb_e hf
          generalize up h6 (a0 + 26) (h6 a0 36) (h6 a0 27) = h8 at hf ⊢
          refine p_iconst dX11_report_66 (by decide) ?_
          refine p_istore_n (ls' := [(3, vi 0), (0, vr 11 a0 0), (1, vi x1), (2, vi x2)]) dX11_report_67 rfl (by decide) rfl ?_
          refine p_sub (ls' := [(0, vr 11 a0 0), (2, vi x2), (3, vi 0)]) [1, 3, 0] rfl ?_
          refine t_X11_report_68 h0 ?_ NF _ _ _ hf
          · intro u14 h13 hf
            refine p_aload_n dX11_report_98 rfl 0 rfl ?_
            refine p_lay (c := 11) (tq := 100) (n := 60) dX11_report_99 40 28 tb_933 (by decide) (by decide) h0 (by decide) (by decide) (fun _ => rfl) (vr 100 (a0 + 28) 60) rfl ?_
            refine p_aload_n dX11_report_102 rfl 0 rfl ?_
            refine p_get (c := 11) (vi (h13 a0 36)) dX11_report_103 36 tb_929 (by decide) (by decide) (Or.inl rfl) h0 rfl rfl ?_
            refine p_iload_n dX11_report_106 rfl 1 rfl ?_
            obtain ⟨c15, hf⟩ := hf
            refine p_iast dX11_report_107 (nnk h0 (by decide)) c15 ?_
            replace hf := hb_e hf
            generalize up h13 (a0 + 28) (h13 a0 36) u14 = h16 at hf ⊢
            refine p_aload_n dX11_report_108 rfl 0 rfl ?_
            refine p_lay (c := 11) (tq := 100) (n := 60) dX11_report_109 41 29 tb_934 (by decide) (by decide) h0 (by decide) (by decide) (fun _ => rfl) (vr 100 (a0 + 29) 60) rfl ?_
            refine p_aload_n dX11_report_112 rfl 0 rfl ?_
            refine p_get (c := 11) (vi (h16 a0 36)) dX11_report_113 36 tb_929 (by decide) (by decide) (Or.inl rfl) h0 rfl rfl ?_
            refine p_aload_n dX11_report_116 rfl 0 rfl ?_
            refine p_get (c := 11) (vi (h16 a0 29)) dX11_report_117 29 tb_922 (by decide) (by decide) (Or.inl rfl) h0 rfl rfl ?_
            obtain ⟨c17, hf⟩ := hf
            refine p_iast dX11_report_120 (nnk h0 (by decide)) c17 ?_
            replace hf := hb_e hf
            generalize up h16 (a0 + 29) (h16 a0 36) (h16 a0 29) = h18 at hf ⊢
            refine p_aload_n dX11_report_121 rfl 0 rfl ?_
            refine p_dup dX11_report_122 (fun _ q => by cases q) ?_
            refine p_get (c := 11) (vi (h18 a0 36)) dX11_report_123 36 tb_929 (by decide) (by decide) (Or.inl rfl) h0 rfl rfl ?_
            refine p_iconst dX11_report_126 (by decide) ?_
            refine p_iadd dX11_report_127 ?_
            refine p_puti (c := 11) dX11_report_128 36 tb_929 (by decide) (by decide) (Or.inl rfl) h0 rfl rfl (fun _ => by decide) (up h18 a0 36 (w32 ((h18 a0 36) + 1))) rfl ?_
            replace hf := hb_e hf
            generalize up h18 a0 36 (w32 ((h18 a0 36) + 1)) = h19 at hf ⊢
            refine p_aload_n dX11_report_131 rfl 0 rfl ?_
            refine p_get (c := 11) (vi (h19 a0 36)) dX11_report_132 36 tb_929 (by decide) (by decide) (Or.inl rfl) h0 rfl rfl ?_
            exact p_iret dX11_report_135 rfl (by decide) (by decide) (fun _ h => absurd h List.not_mem_nil) hf
        · replace hf := Eq.mp (if_neg hc) hf
          refine p_sub (ls' := []) [] rfl ?_
          exact t_X11_report_41 h0   _ hf
theorem ok_X11_report : mOK M_X11_report 2 := ⟨tb_1292, tb_9, by decide +kernel⟩
abbrev M_X11_dueOf : MD := (yX11_dueOf, cX11_dueOf, 2, some .int)
abbrev rm_X11_dueOf : Room := { frames := 4, cells := 0, slots := 0, locals := 103 }
def w_X11_dueOf (a0 x1 : Int) (h : Hh) (K : Int → Hh → Prop) : Prop := w_X11_takes a0 (a0 + 27) 240 (w32 (4 * x1)) h (fun _ h1 => ((0 : Int) ≤ x1 ∧ (x1 : Int) < 60) ∧ (((0 : Int) ≤ h1 (a0 + 26) x1 ∧ (h1 (a0 + 26) x1 : Int) < 6) ∧ (w_X11_goes a0 (h1 (a0 + 26) x1) (h1 (a0 + 29) x1) h1 (fun r4 h5 => w_X11_tenths a0 (h1 (a0 + 11) (h1 (a0 + 26) x1)) r4 h5 (fun r6 h7 => K r6 h7)))))
set_option maxRecDepth 100000 in
set_option maxHeartbeats 4000000 in
theorem t_X11_dueOf {G : Gx} (a0 x1 : Int) (h : Hh) (K : Int → Hh → Prop) (h0 : 0 ≤ a0) (hf : w_X11_dueOf a0 x1 h K) : CT G M_X11_dueOf rm_X11_dueOf 0 0 [] [vr 11 a0 0, vi x1] h K := by
  unfold w_X11_dueOf at hf
  refine CT.of (ls0 := [(0, vr 11 a0 0), (1, vi x1)]) (plainFor_of_name (by decide +kernel)) (by decide +kernel) (Nat.le_of_ble_eq_true rfl) rfl rfl ?_
  refine p_aload_n dX11_dueOf_0 rfl 0 rfl ?_
  refine p_aload_n dX11_dueOf_1 rfl 0 rfl ?_
  refine p_lay (c := 11) (tq := 100) (n := 240) dX11_dueOf_2 39 27 tb_932 (by decide) (by decide) h0 (by decide) (by decide) (fun _ => rfl) (vr 100 (a0 + 27) 240) rfl ?_
  refine p_iconst dX11_dueOf_5 (by decide) ?_
  refine p_iload_n dX11_dueOf_6 rfl 1 rfl ?_
  refine p_imul dX11_dueOf_7 ?_
  refine p_callVv dX11_dueOf_8 M_X11_takes rfl [vr 100 (a0 + 27) 240, vi (w32 (4 * x1))] (t_X11_takes _ _ _ _ _ _ h0 hf) ok_X11_takes rfl (c := 11) (by decide) h0 rfl tb_1199 ⟨tb_1201, ts_84⟩ rfl (Nat.le_of_ble_eq_true rfl) ⟨rfl, rfl⟩ ⟨by decide, by decide⟩ ⟨by decide, by decide⟩ (fun _ h1 hf => ?_)
  refine p_aload_n dX11_dueOf_11 rfl 0 rfl ?_
  refine p_aload_n dX11_dueOf_12 rfl 0 rfl ?_
  refine p_lay (c := 11) (tq := 100) (n := 6) dX11_dueOf_13 19 11 tb_912 (by decide) (by decide) h0 (by decide) (by decide) (fun _ => rfl) (vr 100 (a0 + 11) 6) rfl ?_
  refine p_aload_n dX11_dueOf_16 rfl 0 rfl ?_
  refine p_lay (c := 11) (tq := 100) (n := 60) dX11_dueOf_17 38 26 tb_931 (by decide) (by decide) h0 (by decide) (by decide) (fun _ => rfl) (vr 100 (a0 + 26) 60) rfl ?_
  refine p_iload_n dX11_dueOf_20 rfl 1 rfl ?_
  obtain ⟨c2, hf⟩ := hf
  refine p_iald dX11_dueOf_21 (nnk h0 (by decide)) c2 ?_
  obtain ⟨c3, hf⟩ := hf
  refine p_iald dX11_dueOf_22 (nnk h0 (by decide)) c3 ?_
  refine p_aload_n dX11_dueOf_23 rfl 0 rfl ?_
  refine p_aload_n dX11_dueOf_24 rfl 0 rfl ?_
  refine p_lay (c := 11) (tq := 100) (n := 60) dX11_dueOf_25 38 26 tb_931 (by decide) (by decide) h0 (by decide) (by decide) (fun _ => rfl) (vr 100 (a0 + 26) 60) rfl ?_
  refine p_iload_n dX11_dueOf_28 rfl 1 rfl ?_
  refine p_iald dX11_dueOf_29 (nnk h0 (by decide)) c2 ?_
  refine p_aload_n dX11_dueOf_30 rfl 0 rfl ?_
  refine p_lay (c := 11) (tq := 100) (n := 60) dX11_dueOf_31 41 29 tb_934 (by decide) (by decide) h0 (by decide) (by decide) (fun _ => rfl) (vr 100 (a0 + 29) 60) rfl ?_
  refine p_iload_n dX11_dueOf_34 rfl 1 rfl ?_
  refine p_iald dX11_dueOf_35 (nnk h0 (by decide)) c2 ?_
  refine p_callVl dX11_dueOf_36 M_X11_goes rfl [vi (h1 (a0 + 26) x1), vi (h1 (a0 + 29) x1)] (t_X11_goes _ _ _ _ _ h0 hf) ok_X11_goes rfl (c := 11) (by decide) h0 rfl tb_1203 ⟨tb_1205, ts_85⟩ rfl (Nat.le_of_ble_eq_true rfl) ⟨rfl, rfl⟩ ⟨by decide, by decide⟩ ⟨by decide, by decide⟩ (fun r4 h5 hf => ?_)
  refine p_callVi dX11_dueOf_39 M_X11_tenths (Or.inl rfl) [vi (h1 (a0 + 11) (h1 (a0 + 26) x1)), vl r4] (t_X11_tenths _ _ _ _ _ h0 hf) ok_X11_tenths rfl (c := 11) (by decide) h0 rfl tb_1223 ⟨tb_1225, ts_90⟩ rfl (Nat.le_of_ble_eq_true rfl) ⟨rfl, rfl⟩ ⟨by decide, by decide⟩ ⟨by decide, by decide⟩ (fun r6 h7 hf => ?_)
  exact p_iret dX11_dueOf_42 rfl (by decide) (by decide) (fun _ h => absurd h List.not_mem_nil) hf
theorem ok_X11_dueOf : mOK M_X11_dueOf 1 := ⟨tb_1306, tb_9, by decide +kernel⟩
abbrev M_X11_habitOf : MD := (yX11_habitOf, cX11_habitOf, 10, some .int)
abbrev rm_X11_habitOf : Room := { frames := 5, cells := 0, slots := 0, locals := 124 }
def w_X11_habitOf_104 (K : Int → Hh → Prop) (B : Int → Int → Int → Int → Int → Int → Int → Int → Hh → Prop) (X113 : Int → Int → Int → Int → Int → Int → Int → Hh → Prop) (a0 : Int) (v1 v2 v3 v4 v5 v6 v8 s0 s1 : Int) (h : Hh) : Prop := vb (w32 (s1 + s0)) fun z2 => vb (w32 (v8 + 1)) fun z3 => B v1 v2 v3 v4 v5 v6 z2 z3 h
set_option maxRecDepth 100000 in
set_option maxHeartbeats 4000000 in
theorem t_X11_habitOf_104 {G : Gx} {n0 : Int} {K : Int → Hh → Prop} {B : Int → Int → Int → Int → Int → Int → Int → Int → Hh → Prop} {X113 : Int → Int → Int → Int → Int → Int → Int → Hh → Prop} {a0 : Int} (h0 : 0 ≤ a0) (hB : ∀ (v1 v2 v3 v4 v5 v6 v7 v8 : Int) (h : Hh), B v1 v2 v3 v4 v5 v6 v7 v8 h → PW G M_X11_habitOf rm_X11_habitOf 0 0 [] n0 K 44 [(0, vr 11 a0 0), (1, vi v1), (2, vi v2), (3, vi v3), (4, vi v4), (5, vi v5), (6, vi v6), (7, vi v7), (8, vi v8)] [] [] 0 0 h) (hX113 : ∀ (v1 v2 v3 v4 v5 v6 v7 : Int) (h : Hh), X113 v1 v2 v3 v4 v5 v6 v7 h → PW G M_X11_habitOf rm_X11_habitOf 0 0 [] n0 K 113 [(0, vr 11 a0 0), (1, vi v1), (2, vi v2), (3, vi v3), (4, vi v4), (5, vi v5), (6, vi v6), (7, vi v7)] [] [] 0 0 h)  (v1 v2 v3 v4 v5 v6 v8 s0 s1 : Int) (h : Hh) (hf : w_X11_habitOf_104 K B X113 a0 v1 v2 v3 v4 v5 v6 v8 s0 s1 h) : PW G M_X11_habitOf rm_X11_habitOf 0 0 [] n0 K 104 [(0, vr 11 a0 0), (1, vi v1), (2, vi v2), (3, vi v3), (4, vi v4), (5, vi v5), (6, vi v6), (8, vi v8)] [vi s0, vi s1] [] 0 0 h := by
  unfold w_X11_habitOf_104 at hf
  refine p_iadd dX11_habitOf_104 ?_
  refine p_istore (ls' := [(7, vi (w32 (s1 + s0))), (0, vr 11 a0 0), (1, vi v1), (2, vi v2), (3, vi v3), (4, vi v4), (5, vi v5), (6, vi v6), (8, vi v8)]) dX11_habitOf_105 (by decide) rfl ?_
  replace hf := vb_e hf
  generalize (w32 (s1 + s0)) = z2 at hf ⊢
  refine p_iinc (ls' := [(8, vi (w32 (v8 + 1))), (7, vi z2), (0, vr 11 a0 0), (1, vi v1), (2, vi v2), (3, vi v3), (4, vi v4), (5, vi v5), (6, vi v6)]) dX11_habitOf_107 8 rfl (by decide) rfl ?_
  replace hf := vb_e hf
  generalize w32 (v8 + 1) = z3 at hf ⊢
  refine p_goto (tgt := 44) dX11_habitOf_110 (by decide) ?_
  refine p_sub (ls' := [(0, vr 11 a0 0), (1, vi v1), (2, vi v2), (3, vi v3), (4, vi v4), (5, vi v5), (6, vi v6), (7, vi z2), (8, vi z3)]) [2, 3, 4, 5, 6, 7, 8, 1, 0] rfl ?_
  exact hB _ _ _ _ _ _ _ _ _ hf
def w_X11_habitOf_103 (K : Int → Hh → Prop) (B : Int → Int → Int → Int → Int → Int → Int → Int → Hh → Prop) (X113 : Int → Int → Int → Int → Int → Int → Int → Hh → Prop) (a0 : Int) (v1 v2 v3 v4 v5 v6 v8 s0 : Int) (h : Hh) : Prop := w_X11_habitOf_104 K B X113 a0 v1 v2 v3 v4 v5 v6 v8 0 s0 h
set_option maxRecDepth 100000 in
set_option maxHeartbeats 4000000 in
theorem t_X11_habitOf_103 {G : Gx} {n0 : Int} {K : Int → Hh → Prop} {B : Int → Int → Int → Int → Int → Int → Int → Int → Hh → Prop} {X113 : Int → Int → Int → Int → Int → Int → Int → Hh → Prop} {a0 : Int} (h0 : 0 ≤ a0) (hB : ∀ (v1 v2 v3 v4 v5 v6 v7 v8 : Int) (h : Hh), B v1 v2 v3 v4 v5 v6 v7 v8 h → PW G M_X11_habitOf rm_X11_habitOf 0 0 [] n0 K 44 [(0, vr 11 a0 0), (1, vi v1), (2, vi v2), (3, vi v3), (4, vi v4), (5, vi v5), (6, vi v6), (7, vi v7), (8, vi v8)] [] [] 0 0 h) (hX113 : ∀ (v1 v2 v3 v4 v5 v6 v7 : Int) (h : Hh), X113 v1 v2 v3 v4 v5 v6 v7 h → PW G M_X11_habitOf rm_X11_habitOf 0 0 [] n0 K 113 [(0, vr 11 a0 0), (1, vi v1), (2, vi v2), (3, vi v3), (4, vi v4), (5, vi v5), (6, vi v6), (7, vi v7)] [] [] 0 0 h)  (v1 v2 v3 v4 v5 v6 v8 s0 : Int) (h : Hh) (hf : w_X11_habitOf_103 K B X113 a0 v1 v2 v3 v4 v5 v6 v8 s0 h) : PW G M_X11_habitOf rm_X11_habitOf 0 0 [] n0 K 103 [(0, vr 11 a0 0), (1, vi v1), (2, vi v2), (3, vi v3), (4, vi v4), (5, vi v5), (6, vi v6), (8, vi v8)] [vi s0] [] 0 0 h := by
  unfold w_X11_habitOf_103 at hf
  refine p_iconst dX11_habitOf_103 (by decide) ?_
  exact t_X11_habitOf_104 h0 hB hX113 _ _ _ _ _ _ _ _ _ _ hf
def w_X11_habitOf_74 (K : Int → Hh → Prop) (B : Int → Int → Int → Int → Int → Int → Int → Int → Hh → Prop) (X113 : Int → Int → Int → Int → Int → Int → Int → Hh → Prop) (a0 : Int) (v1 v2 v3 v4 v5 v6 v7 v8 s0 : Int) (h : Hh) : Prop := if s0 = (-1) then (w_X11_habitOf_103 K B X113 a0 v1 v2 v3 v4 v5 v6 v8 v7 h) else (((0 : Int) ≤ v8 ∧ (v8 : Int) < 60) ∧ (if w32 ((h (a0 + 28) v8) - s0) ≠ v6 then (w_X11_habitOf_103 K B X113 a0 v1 v2 v3 v4 v5 v6 v8 v7 h) else (w_X11_habitOf_104 K B X113 a0 v1 v2 v3 v4 v5 v6 v8 1 v7 h)))
set_option maxRecDepth 100000 in
set_option maxHeartbeats 4000000 in
theorem t_X11_habitOf_74 {G : Gx} {n0 : Int} {K : Int → Hh → Prop} {B : Int → Int → Int → Int → Int → Int → Int → Int → Hh → Prop} {X113 : Int → Int → Int → Int → Int → Int → Int → Hh → Prop} {a0 : Int} (h0 : 0 ≤ a0) (hB : ∀ (v1 v2 v3 v4 v5 v6 v7 v8 : Int) (h : Hh), B v1 v2 v3 v4 v5 v6 v7 v8 h → PW G M_X11_habitOf rm_X11_habitOf 0 0 [] n0 K 44 [(0, vr 11 a0 0), (1, vi v1), (2, vi v2), (3, vi v3), (4, vi v4), (5, vi v5), (6, vi v6), (7, vi v7), (8, vi v8)] [] [] 0 0 h) (hX113 : ∀ (v1 v2 v3 v4 v5 v6 v7 : Int) (h : Hh), X113 v1 v2 v3 v4 v5 v6 v7 h → PW G M_X11_habitOf rm_X11_habitOf 0 0 [] n0 K 113 [(0, vr 11 a0 0), (1, vi v1), (2, vi v2), (3, vi v3), (4, vi v4), (5, vi v5), (6, vi v6), (7, vi v7)] [] [] 0 0 h)  (v1 v2 v3 v4 v5 v6 v7 v8 s0 : Int) (h : Hh) (hf : w_X11_habitOf_74 K B X113 a0 v1 v2 v3 v4 v5 v6 v7 v8 s0 h) : PW G M_X11_habitOf rm_X11_habitOf 0 0 [] n0 K 74 [(0, vr 11 a0 0), (1, vi v1), (2, vi v2), (3, vi v3), (4, vi v4), (5, vi v5), (6, vi v6), (7, vi v7), (8, vi v8)] [vi s0] [] 0 0 h := by
  unfold w_X11_habitOf_74 at hf
  refine p_istore (ls' := [(9, vi s0), (0, vr 11 a0 0), (1, vi v1), (2, vi v2), (3, vi v3), (4, vi v4), (5, vi v5), (6, vi v6), (7, vi v7), (8, vi v8)]) dX11_habitOf_74 (by decide) rfl ?_
  refine p_iload dX11_habitOf_76 8 rfl ?_
  refine p_iload dX11_habitOf_78 0 rfl ?_
  refine p_iconst dX11_habitOf_80 (by decide) ?_
  refine p_icmp_eq (tgt := 103) (q := s0 = (-1)) dX11_habitOf_81 (by decide) Iff.rfl (fun hc => ?_) (fun hc => ?_)
  · replace hf := Eq.mp (if_pos hc) hf
    refine p_sub (ls' := [(0, vr 11 a0 0), (1, vi v1), (2, vi v2), (3, vi v3), (4, vi v4), (5, vi v5), (6, vi v6), (8, vi v8)]) [1, 2, 3, 4, 5, 6, 7, 9] rfl ?_
    exact t_X11_habitOf_103 h0 hB hX113 _ _ _ _ _ _ _ _ _ hf
  · replace hf := Eq.mp (if_neg hc) hf
    refine p_aload_n dX11_habitOf_84 rfl 1 rfl ?_
    refine p_lay (c := 11) (tq := 100) (n := 60) dX11_habitOf_85 40 28 tb_933 (by decide) (by decide) h0 (by decide) (by decide) (fun _ => rfl) (vr 100 (a0 + 28) 60) rfl ?_
    refine p_iload dX11_habitOf_88 9 rfl ?_
    obtain ⟨c4, hf⟩ := hf
    refine p_iald dX11_habitOf_90 (nnk h0 (by decide)) c4 ?_
    refine p_iload dX11_habitOf_91 0 rfl ?_
    refine p_isub dX11_habitOf_93 ?_
    refine p_iload dX11_habitOf_94 7 rfl ?_
    refine p_icmp_ne (tgt := 103) (q := w32 ((h (a0 + 28) v8) - s0) ≠ v6) dX11_habitOf_96 (by decide) Iff.rfl (fun hc => ?_) (fun hc => ?_)
    · replace hf := Eq.mp (if_pos hc) hf
      refine p_sub (ls' := [(0, vr 11 a0 0), (1, vi v1), (2, vi v2), (3, vi v3), (4, vi v4), (5, vi v5), (6, vi v6), (8, vi v8)]) [1, 2, 3, 4, 5, 6, 7, 9] rfl ?_
      exact t_X11_habitOf_103 h0 hB hX113 _ _ _ _ _ _ _ _ _ hf
    · replace hf := Eq.mp (if_neg hc) hf
      refine p_iconst dX11_habitOf_99 (by decide) ?_
      refine p_goto (tgt := 104) dX11_habitOf_100 (by decide) ?_
      refine p_sub (ls' := [(0, vr 11 a0 0), (1, vi v1), (2, vi v2), (3, vi v3), (4, vi v4), (5, vi v5), (6, vi v6), (8, vi v8)]) [1, 2, 3, 4, 5, 6, 7, 9] rfl ?_
      exact t_X11_habitOf_104 h0 hB hX113 _ _ _ _ _ _ _ _ _ _ hf
def w_X11_habitOf_44 (K : Int → Hh → Prop) (X113 : Int → Int → Int → Int → Int → Int → Int → Hh → Prop) (a0 : Int) : Nat → Int → Int → Int → Int → Int → Int → Int → Int → Hh → Prop
  | 0, _, _, _, _, _, _, _, _, _ => False
  | n + 1, v1, v2, v3, v4, v5, v6, v7, v8, h => if v8 ≥ h a0 36 then (X113 v1 v2 v3 v4 v5 v6 v7 h) else (((0 : Int) ≤ v8 ∧ (v8 : Int) < 60) ∧ (if h (a0 + 25) v8 ≠ v1 then (w_X11_habitOf_74 K (w_X11_habitOf_44 K X113 a0 n) X113 a0 v1 v2 v3 v4 v5 v6 v7 v8 (-1) h) else (w_X11_dueOf a0 v8 h (fun r5 h6 => w_X11_habitOf_74 K (w_X11_habitOf_44 K X113 a0 n) X113 a0 v1 v2 v3 v4 v5 v6 v7 v8 r5 h6))))
set_option maxRecDepth 100000 in
set_option maxHeartbeats 4000000 in
theorem t_X11_habitOf_44 {G : Gx} {n0 : Int} {K : Int → Hh → Prop} {X113 : Int → Int → Int → Int → Int → Int → Int → Hh → Prop} {a0 : Int} (h0 : 0 ≤ a0) (hX113 : ∀ (v1 v2 v3 v4 v5 v6 v7 : Int) (h : Hh), X113 v1 v2 v3 v4 v5 v6 v7 h → PW G M_X11_habitOf rm_X11_habitOf 0 0 [] n0 K 113 [(0, vr 11 a0 0), (1, vi v1), (2, vi v2), (3, vi v3), (4, vi v4), (5, vi v5), (6, vi v6), (7, vi v7)] [] [] 0 0 h) : ∀ (n : Nat) (v1 v2 v3 v4 v5 v6 v7 v8 : Int) (h : Hh), w_X11_habitOf_44 K X113 a0 n v1 v2 v3 v4 v5 v6 v7 v8 h → PW G M_X11_habitOf rm_X11_habitOf 0 0 [] n0 K 44 [(0, vr 11 a0 0), (1, vi v1), (2, vi v2), (3, vi v3), (4, vi v4), (5, vi v5), (6, vi v6), (7, vi v7), (8, vi v8)] [] [] 0 0 h := by
  intro n
  induction n with
  | zero =>
    intro v1 v2 v3 v4 v5 v6 v7 v8 h hf
    rw [w_X11_habitOf_44] at hf
    exact hf.elim
  | succ n ih =>
    intro v1 v2 v3 v4 v5 v6 v7 v8 h hf
    rw [w_X11_habitOf_44] at hf
    refine p_iload dX11_habitOf_44 8 rfl ?_
    refine p_aload_n dX11_habitOf_46 rfl 0 rfl ?_
    refine p_get (c := 11) (vi (h a0 36)) dX11_habitOf_47 36 tb_929 (by decide) (by decide) (Or.inl rfl) h0 rfl rfl ?_
    refine p_icmp_ge (tgt := 113) (q := v8 ≥ h a0 36) dX11_habitOf_50 (by decide) Iff.rfl (fun hc => ?_) (fun hc => ?_)
    · replace hf := Eq.mp (if_pos hc) hf
      refine p_sub (ls' := [(0, vr 11 a0 0), (1, vi v1), (2, vi v2), (3, vi v3), (4, vi v4), (5, vi v5), (6, vi v6), (7, vi v7)]) [0, 1, 2, 3, 4, 5, 6, 7] rfl ?_
      exact hX113 _ _ _ _ _ _ _ _ hf
    · replace hf := Eq.mp (if_neg hc) hf
      refine p_aload_n dX11_habitOf_53 rfl 0 rfl ?_
      refine p_lay (c := 11) (tq := 100) (n := 60) dX11_habitOf_54 37 25 tb_930 (by decide) (by decide) h0 (by decide) (by decide) (fun _ => rfl) (vr 100 (a0 + 25) 60) rfl ?_
      refine p_iload dX11_habitOf_57 8 rfl ?_
      obtain ⟨c1, hf⟩ := hf
      refine p_iald dX11_habitOf_59 (nnk h0 (by decide)) c1 ?_
      refine p_iload_n dX11_habitOf_60 rfl 1 rfl ?_
      refine p_icmp_ne (tgt := 73) (q := h (a0 + 25) v8 ≠ v1) dX11_habitOf_61 (by decide) Iff.rfl (fun hc => ?_) (fun hc => ?_)
      · replace hf := Eq.mp (if_pos hc) hf
        refine p_iconst dX11_habitOf_73 (by decide) ?_
        exact t_X11_habitOf_74 h0 ih hX113 _ _ _ _ _ _ _ _ _ _ hf
      · replace hf := Eq.mp (if_neg hc) hf
        refine p_aload_n dX11_habitOf_64 rfl 0 rfl ?_
        refine p_iload dX11_habitOf_65 8 rfl ?_
        refine p_callVi dX11_habitOf_67 M_X11_dueOf (Or.inl rfl) [vi v8] (t_X11_dueOf _ _ _ _ h0 hf) ok_X11_dueOf rfl (c := 11) (by decide) h0 rfl tb_1303 ⟨tb_1305, ts_97⟩ rfl (Nat.le_of_ble_eq_true rfl) ⟨rfl, rfl⟩ ⟨by decide, by decide⟩ ⟨by decide, by decide⟩ (fun r5 h6 hf => ?_)
        refine p_goto (tgt := 74) dX11_habitOf_70 (by decide) ?_
        exact t_X11_habitOf_74 h0 ih hX113 _ _ _ _ _ _ _ _ _ _ hf
def w_X11_habitOf_128 (K : Int → Hh → Prop) (B : Int → Int → Int → Int → Int → Hh → Prop) (X134 : Int → Int → Int → Int → Hh → Prop) (a0 : Int) (v1 v2 v3 v4 v5 : Int) (h : Hh) : Prop := vb (w32 (v5 + 1)) fun z15 => B v1 v2 v3 v4 z15 h
set_option maxRecDepth 100000 in
set_option maxHeartbeats 4000000 in
theorem t_X11_habitOf_128 {G : Gx} {n0 : Int} {K : Int → Hh → Prop} {B : Int → Int → Int → Int → Int → Hh → Prop} {X134 : Int → Int → Int → Int → Hh → Prop} {a0 : Int} (h0 : 0 ≤ a0) (hB : ∀ (v1 v2 v3 v4 v5 : Int) (h : Hh), B v1 v2 v3 v4 v5 h → PW G M_X11_habitOf rm_X11_habitOf 0 0 [] n0 K 17 [(0, vr 11 a0 0), (1, vi v1), (2, vi v2), (3, vi v3), (4, vi v4), (5, vi v5)] [] [] 0 0 h) (hX134 : ∀ (v1 v2 v3 v4 : Int) (h : Hh), X134 v1 v2 v3 v4 h → PW G M_X11_habitOf rm_X11_habitOf 0 0 [] n0 K 134 [(0, vr 11 a0 0), (1, vi v1), (2, vi v2), (3, vi v3), (4, vi v4)] [] [] 0 0 h)  (v1 v2 v3 v4 v5 : Int) (h : Hh) (hf : w_X11_habitOf_128 K B X134 a0 v1 v2 v3 v4 v5 h) : PW G M_X11_habitOf rm_X11_habitOf 0 0 [] n0 K 128 [(0, vr 11 a0 0), (1, vi v1), (2, vi v2), (3, vi v3), (4, vi v4), (5, vi v5)] [] [] 0 0 h := by
  unfold w_X11_habitOf_128 at hf
  refine p_iinc (ls' := [(5, vi (w32 (v5 + 1))), (0, vr 11 a0 0), (1, vi v1), (2, vi v2), (3, vi v3), (4, vi v4)]) dX11_habitOf_128 5 rfl (by decide) rfl ?_
  replace hf := vb_e hf
  generalize w32 (v5 + 1) = z15 at hf ⊢
  refine p_goto (tgt := 17) dX11_habitOf_131 (by decide) ?_
  refine p_sub (ls' := [(0, vr 11 a0 0), (1, vi v1), (2, vi v2), (3, vi v3), (4, vi v4), (5, vi z15)]) [1, 2, 3, 4, 5, 0] rfl ?_
  exact hB _ _ _ _ _ _ hf
def w_X11_habitOf_36 (K : Int → Hh → Prop) (B : Int → Int → Int → Int → Int → Hh → Prop) (X134 : Int → Int → Int → Int → Hh → Prop) (a0 : Int) (v1 v2 v3 v4 v5 s0 : Int) (h : Hh) : Prop := w_X11_habitOf_44 K (fun u8 u9 u10 u11 u12 u13 u14 h7 => if u14 > u10 then (w_X11_habitOf_128 K B X134 a0 u8 u13 u14 u11 u12 h7) else (w_X11_habitOf_128 K B X134 a0 u8 u9 u10 u11 u12 h7)) a0 NF v1 v2 v3 v4 v5 s0 0 0 h
set_option maxRecDepth 100000 in
set_option maxHeartbeats 4000000 in
theorem t_X11_habitOf_36 {G : Gx} {n0 : Int} {K : Int → Hh → Prop} {B : Int → Int → Int → Int → Int → Hh → Prop} {X134 : Int → Int → Int → Int → Hh → Prop} {a0 : Int} (h0 : 0 ≤ a0) (hB : ∀ (v1 v2 v3 v4 v5 : Int) (h : Hh), B v1 v2 v3 v4 v5 h → PW G M_X11_habitOf rm_X11_habitOf 0 0 [] n0 K 17 [(0, vr 11 a0 0), (1, vi v1), (2, vi v2), (3, vi v3), (4, vi v4), (5, vi v5)] [] [] 0 0 h) (hX134 : ∀ (v1 v2 v3 v4 : Int) (h : Hh), X134 v1 v2 v3 v4 h → PW G M_X11_habitOf rm_X11_habitOf 0 0 [] n0 K 134 [(0, vr 11 a0 0), (1, vi v1), (2, vi v2), (3, vi v3), (4, vi v4)] [] [] 0 0 h)  (v1 v2 v3 v4 v5 s0 : Int) (h : Hh) (hf : w_X11_habitOf_36 K B X134 a0 v1 v2 v3 v4 v5 s0 h) : PW G M_X11_habitOf rm_X11_habitOf 0 0 [] n0 K 36 [(0, vr 11 a0 0), (1, vi v1), (2, vi v2), (3, vi v3), (4, vi v4), (5, vi v5)] [vi s0] [] 0 0 h := by
  unfold w_X11_habitOf_36 at hf
  refine p_istore (ls' := [(6, vi s0), (0, vr 11 a0 0), (1, vi v1), (2, vi v2), (3, vi v3), (4, vi v4), (5, vi v5)]) dX11_habitOf_36 (by decide) rfl ?_
  refine p_iconst dX11_habitOf_38 (by decide) ?_
  refine p_istore (ls' := [(7, vi 0), (6, vi s0), (0, vr 11 a0 0), (1, vi v1), (2, vi v2), (3, vi v3), (4, vi v4), (5, vi v5)]) dX11_habitOf_39 (by decide) rfl ?_
  refine p_iconst dX11_habitOf_41 (by decide) ?_
  refine p_istore (ls' := [(8, vi 0), (7, vi 0), (6, vi s0), (0, vr 11 a0 0), (1, vi v1), (2, vi v2), (3, vi v3), (4, vi v4), (5, vi v5)]) dX11_habitOf_42 (by decide) rfl ?_
  refine p_sub (ls' := [(0, vr 11 a0 0), (1, vi v1), (2, vi v2), (3, vi v3), (4, vi v4), (5, vi v5), (6, vi s0), (7, vi 0), (8, vi 0)]) [3, 4, 5, 6, 7, 8, 2, 1, 0] rfl ?_
  refine t_X11_habitOf_44 h0 ?_ NF _ _ _ _ _ _ _ _ _ hf
  · intro u8 u9 u10 u11 u12 u13 u14 h7 hf
    refine p_iload dX11_habitOf_113 7 rfl ?_
    refine p_iload_n dX11_habitOf_115 rfl 3 rfl ?_
    refine p_icmp_gt (tgt := 122) (q := u14 > u10) dX11_habitOf_116 (by decide) Iff.rfl (fun hc => ?_) (fun hc => ?_)
    · replace hf := Eq.mp (if_pos hc) hf
      refine p_iload dX11_habitOf_122 7 rfl ?_
      refine p_istore_n (ls' := [(3, vi u14), (0, vr 11 a0 0), (1, vi u8), (2, vi u9), (4, vi u11), (5, vi u12), (6, vi u13), (7, vi u14)]) dX11_habitOf_124 rfl (by decide) rfl ?_
      refine p_iload dX11_habitOf_125 6 rfl ?_
      refine p_istore_n (ls' := [(2, vi u13), (3, vi u14), (0, vr 11 a0 0), (1, vi u8), (4, vi u11), (5, vi u12), (6, vi u13), (7, vi u14)]) dX11_habitOf_127 rfl (by decide) rfl ?_
      refine p_sub (ls' := [(0, vr 11 a0 0), (1, vi u8), (2, vi u13), (3, vi u14), (4, vi u11), (5, vi u12)]) [2, 3, 0, 1, 4, 5] rfl ?_
      exact t_X11_habitOf_128 h0 hB hX134 _ _ _ _ _ _ hf
    · replace hf := Eq.mp (if_neg hc) hf
      refine p_goto (tgt := 128) dX11_habitOf_119 (by decide) ?_
      refine p_sub (ls' := [(0, vr 11 a0 0), (1, vi u8), (2, vi u9), (3, vi u10), (4, vi u11), (5, vi u12)]) [0, 1, 2, 3, 4, 5] rfl ?_
      exact t_X11_habitOf_128 h0 hB hX134 _ _ _ _ _ _ hf
def w_X11_habitOf_17 (K : Int → Hh → Prop) (X134 : Int → Int → Int → Int → Hh → Prop) (a0 : Int) : Nat → Int → Int → Int → Int → Int → Hh → Prop
  | 0, _, _, _, _, _, _ => False
  | n + 1, v1, v2, v3, v4, v5, h => if v5 ≥ 2 then (X134 v1 v2 v3 v4 h) else (if v5 ≠ 0 then (w_X11_habitOf_36 K (w_X11_habitOf_17 K X134 a0 n) X134 a0 v1 v2 v3 v4 v5 v4 h) else (w_X11_habitOf_36 K (w_X11_habitOf_17 K X134 a0 n) X134 a0 v1 v2 v3 v4 v5 (w32 (-v4)) h))
set_option maxRecDepth 100000 in
set_option maxHeartbeats 4000000 in
theorem t_X11_habitOf_17 {G : Gx} {n0 : Int} {K : Int → Hh → Prop} {X134 : Int → Int → Int → Int → Hh → Prop} {a0 : Int} (h0 : 0 ≤ a0) (hX134 : ∀ (v1 v2 v3 v4 : Int) (h : Hh), X134 v1 v2 v3 v4 h → PW G M_X11_habitOf rm_X11_habitOf 0 0 [] n0 K 134 [(0, vr 11 a0 0), (1, vi v1), (2, vi v2), (3, vi v3), (4, vi v4)] [] [] 0 0 h) : ∀ (n : Nat) (v1 v2 v3 v4 v5 : Int) (h : Hh), w_X11_habitOf_17 K X134 a0 n v1 v2 v3 v4 v5 h → PW G M_X11_habitOf rm_X11_habitOf 0 0 [] n0 K 17 [(0, vr 11 a0 0), (1, vi v1), (2, vi v2), (3, vi v3), (4, vi v4), (5, vi v5)] [] [] 0 0 h := by
  intro n
  induction n with
  | zero =>
    intro v1 v2 v3 v4 v5 h hf
    rw [w_X11_habitOf_17] at hf
    exact hf.elim
  | succ n ih =>
    intro v1 v2 v3 v4 v5 h hf
    rw [w_X11_habitOf_17] at hf
    refine p_iload dX11_habitOf_17 5 rfl ?_
    refine p_iconst dX11_habitOf_19 (by decide) ?_
    refine p_icmp_ge (tgt := 134) (q := v5 ≥ 2) dX11_habitOf_20 (by decide) Iff.rfl (fun hc => ?_) (fun hc => ?_)
    · replace hf := Eq.mp (if_pos hc) hf
      refine p_sub (ls' := [(0, vr 11 a0 0), (1, vi v1), (2, vi v2), (3, vi v3), (4, vi v4)]) [0, 1, 2, 3, 4] rfl ?_
      exact hX134 _ _ _ _ _ hf
    · replace hf := Eq.mp (if_neg hc) hf
      refine p_iload dX11_habitOf_23 5 rfl ?_
      refine p_if_ne (tgt := 34) (q := v5 ≠ 0) dX11_habitOf_25 (by decide) Iff.rfl (fun hc => ?_) (fun hc => ?_)
      · replace hf := Eq.mp (if_pos hc) hf
        refine p_iload dX11_habitOf_34 4 rfl ?_
        exact t_X11_habitOf_36 h0 ih hX134 _ _ _ _ _ _ _ hf
      · replace hf := Eq.mp (if_neg hc) hf
        refine p_iload dX11_habitOf_28 4 rfl ?_
        refine p_ineg dX11_habitOf_30 ?_
        refine p_goto (tgt := 36) dX11_habitOf_31 (by decide) ?_
        exact t_X11_habitOf_36 h0 ih hX134 _ _ _ _ _ _ _ hf
def w_X11_habitOf_7 (K : Int → Hh → Prop) (a0 : Int) : Nat → Int → Int → Int → Int → Hh → Prop
  | 0, _, _, _, _, _ => False
  | n + 1, v1, v2, v3, v4, h => if v4 > 9 then (K v2 h) else (w_X11_habitOf_17 K (fun u17 u18 u19 u20 h16 => vb (w32 (u20 + 1)) fun z21 => w_X11_habitOf_7 K  a0 n u17 u18 u19 z21 h16) a0 NF v1 v2 v3 v4 0 h)
set_option maxRecDepth 100000 in
set_option maxHeartbeats 4000000 in
theorem t_X11_habitOf_7 {G : Gx} {n0 : Int} {K : Int → Hh → Prop} {a0 : Int} (h0 : 0 ≤ a0) : ∀ (n : Nat) (v1 v2 v3 v4 : Int) (h : Hh), w_X11_habitOf_7 K  a0 n v1 v2 v3 v4 h → PW G M_X11_habitOf rm_X11_habitOf 0 0 [] n0 K 7 [(0, vr 11 a0 0), (1, vi v1), (2, vi v2), (3, vi v3), (4, vi v4)] [] [] 0 0 h := by
  intro n
  induction n with
  | zero =>
    intro v1 v2 v3 v4 h hf
    rw [w_X11_habitOf_7] at hf
    exact hf.elim
  | succ n ih =>
    intro v1 v2 v3 v4 h hf
    rw [w_X11_habitOf_7] at hf
    refine p_iload dX11_habitOf_7 4 rfl ?_
    refine p_bipush dX11_habitOf_9 (by decide) (by decide) ?_
    refine p_icmp_gt (tgt := 140) (q := v4 > 9) dX11_habitOf_11 (by decide) Iff.rfl (fun hc => ?_) (fun hc => ?_)
    · replace hf := Eq.mp (if_pos hc) hf
      refine p_iload_n dX11_habitOf_140 rfl 2 rfl ?_
      exact p_iret dX11_habitOf_141 rfl (by decide) (by decide) (fun _ h => absurd h List.not_mem_nil) hf
    · replace hf := Eq.mp (if_neg hc) hf
      refine p_iconst dX11_habitOf_14 (by decide) ?_
      refine p_istore (ls' := [(5, vi 0), (0, vr 11 a0 0), (1, vi v1), (2, vi v2), (3, vi v3), (4, vi v4)]) dX11_habitOf_15 (by decide) rfl ?_
      refine p_sub (ls' := [(0, vr 11 a0 0), (1, vi v1), (2, vi v2), (3, vi v3), (4, vi v4), (5, vi 0)]) [1, 2, 3, 4, 5, 0] rfl ?_
      refine t_X11_habitOf_17 h0 ?_ NF _ _ _ _ _ _ hf
      · intro u17 u18 u19 u20 h16 hf
        refine p_iinc (ls' := [(4, vi (w32 (u20 + 1))), (0, vr 11 a0 0), (1, vi u17), (2, vi u18), (3, vi u19)]) dX11_habitOf_134 4 rfl (by decide) rfl ?_
        replace hf := vb_e hf
        generalize w32 (u20 + 1) = z21 at hf ⊢
        refine p_goto (tgt := 7) dX11_habitOf_137 (by decide) ?_
        refine p_sub (ls' := [(0, vr 11 a0 0), (1, vi u17), (2, vi u18), (3, vi u19), (4, vi z21)]) [1, 2, 3, 4, 0] rfl ?_
        exact ih _ _ _ _ _ hf
def w_X11_habitOf (a0 x1 : Int) (h : Hh) (K : Int → Hh → Prop) : Prop := w_X11_habitOf_7 K  a0 NF x1 0 0 0 h
set_option maxRecDepth 100000 in
set_option maxHeartbeats 4000000 in
theorem t_X11_habitOf {G : Gx} (a0 x1 : Int) (h : Hh) (K : Int → Hh → Prop) (h0 : 0 ≤ a0) (hf : w_X11_habitOf a0 x1 h K) : CT G M_X11_habitOf rm_X11_habitOf 0 0 [] [vr 11 a0 0, vi x1] h K := by
  unfold w_X11_habitOf at hf
  refine CT.of (ls0 := [(0, vr 11 a0 0), (1, vi x1)]) (plainFor_of_name (by decide +kernel)) (by decide +kernel) (Nat.le_of_ble_eq_true rfl) rfl rfl ?_
  refine p_iconst dX11_habitOf_0 (by decide) ?_
  refine p_istore_n (ls' := [(2, vi 0), (0, vr 11 a0 0), (1, vi x1)]) dX11_habitOf_1 rfl (by decide) rfl ?_
  refine p_iconst dX11_habitOf_2 (by decide) ?_
  refine p_istore_n (ls' := [(3, vi 0), (2, vi 0), (0, vr 11 a0 0), (1, vi x1)]) dX11_habitOf_3 rfl (by decide) rfl ?_
  refine p_iconst dX11_habitOf_4 (by decide) ?_
  refine p_istore (ls' := [(4, vi 0), (3, vi 0), (2, vi 0), (0, vr 11 a0 0), (1, vi x1)]) dX11_habitOf_5 (by decide) rfl ?_
  refine p_sub (ls' := [(0, vr 11 a0 0), (1, vi x1), (2, vi 0), (3, vi 0), (4, vi 0)]) [3, 4, 2, 1, 0] rfl ?_
  refine t_X11_habitOf_7 h0  NF _ _ _ _ _ hf
theorem ok_X11_habitOf : mOK M_X11_habitOf 1 := ⟨tb_1302, tb_9, by decide +kernel⟩
