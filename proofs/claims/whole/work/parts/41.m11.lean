abbrev M_X11_paper : MD := (yX11_paper, cX11_paper, 5, some .boolean)
abbrev rm_X11_paper : Room := { frames := 2, cells := 0, slots := 0, locals := 46 }
def w_X11_paper_51 (K : Int → Hh → Prop) (a0 : Int) (h : Hh) : Prop := K 0 h
set_option maxRecDepth 100000 in
set_option maxHeartbeats 4000000 in
theorem t_X11_paper_51 {G : Gx} {n0 : Int} {K : Int → Hh → Prop} {a0 : Int} (h0 : 0 ≤ a0)  (h : Hh) (hf : w_X11_paper_51 K  a0  h) : PW G M_X11_paper rm_X11_paper 0 0 [] n0 K 51 [] [] [] 0 0 h := by
  unfold w_X11_paper_51 at hf
  refine p_iconst dX11_paper_51 (by decide) ?_
  exact p_zret dX11_paper_52 rfl (by decide) (by decide) (fun _ h => absurd h List.not_mem_nil) (Or.inl rfl) hf
def w_X11_paper (a0 x1 x2 x3 x4 : Int) (h : Hh) (K : Int → Hh → Prop) : Prop := w_X11_isChart a0 x1 h (fun r1 h2 => if r1 = 0 then (w_X11_paper_51 K  a0  h2) else (w_X11_in x2 (-30000) 30000 h2 (fun r3 h4 => if r3 = 0 then (w_X11_paper_51 K  a0  h4) else (w_X11_in x3 (-50) 50 h4 (fun r5 h6 => if r5 = 0 then (w_X11_paper_51 K  a0  h6) else (w_X11_in x4 (-50) 50 h6 (fun r7 h8 => if r7 ≠ 0 then (((0 : Int) ≤ x1 ∧ (x1 : Int) < 6) ∧ (hb (up h8 (a0 + 16) x1 x2) fun h10 => hb (up h10 (a0 + 17) x1 x3) fun h11 => hb (up h11 (a0 + 18) x1 x4) fun h12 => K 1 h12)) else (w_X11_paper_51 K  a0  h8))))))))
set_option maxRecDepth 100000 in
set_option maxHeartbeats 4000000 in
theorem t_X11_paper {G : Gx} (a0 x1 x2 x3 x4 : Int) (h : Hh) (K : Int → Hh → Prop) (h0 : 0 ≤ a0) (hf : w_X11_paper a0 x1 x2 x3 x4 h K) : CT G M_X11_paper rm_X11_paper 0 0 [] [vr 11 a0 0, vi x1, vi x2, vi x3, vi x4] h K := by
  unfold w_X11_paper at hf
  refine CT.of (ls0 := [(0, vr 11 a0 0), (1, vi x1), (2, vi x2), (3, vi x3), (4, vi x4)]) (plainFor_of_name (by decide +kernel)) (by decide +kernel) (Nat.le_of_ble_eq_true rfl) rfl rfl ?_
  refine p_aload_n dX11_paper_0 rfl 0 rfl ?_
  refine p_iload_n dX11_paper_1 rfl 1 rfl ?_
  refine p_callVi dX11_paper_2 M_X11_isChart (Or.inr rfl) [vi x1] (t_X11_isChart _ _ _ _ h0 hf) ok_X11_isChart rfl (c := 11) (by decide) h0 rfl tb_1165 ⟨tb_1167, ts_81⟩ rfl (Nat.le_of_ble_eq_true rfl) ⟨rfl, rfl⟩ ⟨by decide, by decide⟩ ⟨by decide, by decide⟩ (fun r1 h2 hf => ?_)
  refine p_if_eq (tgt := 51) (q := r1 = 0) dX11_paper_5 (by decide) Iff.rfl (fun hc => ?_) (fun hc => ?_)
  · replace hf := Eq.mp (if_pos hc) hf
    refine p_sub (ls' := []) [] rfl ?_
    exact t_X11_paper_51 h0   _ hf
  · replace hf := Eq.mp (if_neg hc) hf
    refine p_iload_n dX11_paper_8 rfl 2 rfl ?_
    refine p_i2l dX11_paper_9 ?_
    refine p_ldc2 (z := (-30000)) dX11_paper_10 tb_1173 (by decide) ?_
    refine p_ldc2 (z := 30000) dX11_paper_13 tb_1174 (by decide) ?_
    refine p_callSi dX11_paper_16 M_X11_in (Or.inr rfl) [vl x2, vl (-30000), vl 30000] (t_X11_in _ _ _ _ _ hf) ok_X11_in rfl tb_1079 tb_1080 rfl (Nat.le_of_ble_eq_true rfl) ⟨rfl, rfl⟩ ⟨by decide, by decide⟩ ⟨by decide, by decide⟩ (fun r3 h4 hf => ?_)
    refine p_if_eq (tgt := 51) (q := r3 = 0) dX11_paper_19 (by decide) Iff.rfl (fun hc => ?_) (fun hc => ?_)
    · replace hf := Eq.mp (if_pos hc) hf
      refine p_sub (ls' := []) [] rfl ?_
      exact t_X11_paper_51 h0   _ hf
    · replace hf := Eq.mp (if_neg hc) hf
      refine p_iload_n dX11_paper_22 rfl 3 rfl ?_
      refine p_i2l dX11_paper_23 ?_
      refine p_ldc2 (z := (-50)) dX11_paper_24 tb_1175 (by decide) ?_
      refine p_ldc2 (z := 50) dX11_paper_27 tb_1160 (by decide) ?_
      refine p_callSi dX11_paper_30 M_X11_in (Or.inr rfl) [vl x3, vl (-50), vl 50] (t_X11_in _ _ _ _ _ hf) ok_X11_in rfl tb_1079 tb_1080 rfl (Nat.le_of_ble_eq_true rfl) ⟨rfl, rfl⟩ ⟨by decide, by decide⟩ ⟨by decide, by decide⟩ (fun r5 h6 hf => ?_)
      refine p_if_eq (tgt := 51) (q := r5 = 0) dX11_paper_33 (by decide) Iff.rfl (fun hc => ?_) (fun hc => ?_)
      · replace hf := Eq.mp (if_pos hc) hf
        refine p_sub (ls' := []) [] rfl ?_
        exact t_X11_paper_51 h0   _ hf
      · replace hf := Eq.mp (if_neg hc) hf
        refine p_iload dX11_paper_36 4 rfl ?_
        refine p_i2l dX11_paper_38 ?_
        refine p_ldc2 (z := (-50)) dX11_paper_39 tb_1175 (by decide) ?_
        refine p_ldc2 (z := 50) dX11_paper_42 tb_1160 (by decide) ?_
        refine p_callSi dX11_paper_45 M_X11_in (Or.inr rfl) [vl x4, vl (-50), vl 50] (t_X11_in _ _ _ _ _ hf) ok_X11_in rfl tb_1079 tb_1080 rfl (Nat.le_of_ble_eq_true rfl) ⟨rfl, rfl⟩ ⟨by decide, by decide⟩ ⟨by decide, by decide⟩ (fun r7 h8 hf => ?_)
        refine p_if_ne (tgt := 53) (q := r7 ≠ 0) dX11_paper_48 (by decide) Iff.rfl (fun hc => ?_) (fun hc => ?_)
        · replace hf := Eq.mp (if_pos hc) hf
          refine p_aload_n dX11_paper_53 rfl 0 rfl ?_
          refine p_lay (c := 11) (tq := 100) (n := 6) dX11_paper_54 24 16 tb_917 (by decide) (by decide) h0 (by decide) (by decide) (fun _ => rfl) (vr 100 (a0 + 16) 6) rfl ?_
          refine p_iload_n dX11_paper_57 rfl 1 rfl ?_
          refine p_iload_n dX11_paper_58 rfl 2 rfl ?_
          obtain ⟨c9, hf⟩ := hf
          refine p_iast dX11_paper_59 (nnk h0 (by decide)) c9 ?_
          replace hf := hb_e hf
          generalize up h8 (a0 + 16) x1 x2 = h10 at hf ⊢
          refine p_aload_n dX11_paper_60 rfl 0 rfl ?_
          refine p_lay (c := 11) (tq := 100) (n := 6) dX11_paper_61 25 17 tb_918 (by decide) (by decide) h0 (by decide) (by decide) (fun _ => rfl) (vr 100 (a0 + 17) 6) rfl ?_
          refine p_iload_n dX11_paper_64 rfl 1 rfl ?_
          refine p_iload_n dX11_paper_65 rfl 3 rfl ?_
          refine p_iast dX11_paper_66 (nnk h0 (by decide)) c9 ?_
          replace hf := hb_e hf
          generalize up h10 (a0 + 17) x1 x3 = h11 at hf ⊢
          refine p_aload_n dX11_paper_67 rfl 0 rfl ?_
          refine p_lay (c := 11) (tq := 100) (n := 6) dX11_paper_68 26 18 tb_919 (by decide) (by decide) h0 (by decide) (by decide) (fun _ => rfl) (vr 100 (a0 + 18) 6) rfl ?_
          refine p_iload_n dX11_paper_71 rfl 1 rfl ?_
          refine p_iload dX11_paper_72 4 rfl ?_
          refine p_iast dX11_paper_74 (nnk h0 (by decide)) c9 ?_
          replace hf := hb_e hf
          generalize up h11 (a0 + 18) x1 x4 = h12 at hf ⊢
          refine p_iconst dX11_paper_75 (by decide) ?_
          exact p_zret dX11_paper_76 rfl (by decide) (by decide) (fun _ h => absurd h List.not_mem_nil) (Or.inr rfl) hf
        · replace hf := Eq.mp (if_neg hc) hf
          refine p_sub (ls' := []) [] rfl ?_
          exact t_X11_paper_51 h0   _ hf
theorem ok_X11_paper : mOK M_X11_paper 4 := ⟨tb_1172, tb_9, by decide +kernel⟩
abbrev M_X11_swelled : MD := (yX11_swelled, cX11_swelled, 4, some .int)
abbrev rm_X11_swelled : Room := { frames := 3, cells := 0, slots := 0, locals := 76 }
def w_X11_swelled_22 (K : Int → Hh → Prop) (a0 : Int) (h : Hh) : Prop := K (-2147483648) h
set_option maxRecDepth 100000 in
set_option maxHeartbeats 4000000 in
theorem t_X11_swelled_22 {G : Gx} {n0 : Int} {K : Int → Hh → Prop} {a0 : Int} (h0 : 0 ≤ a0)  (h : Hh) (hf : w_X11_swelled_22 K  a0  h) : PW G M_X11_swelled rm_X11_swelled 0 0 [] n0 K 22 [] [] [] 0 0 h := by
  unfold w_X11_swelled_22 at hf
  refine p_ldc (z := (-2147483648)) dX11_swelled_22 tb_1123 (by decide) ?_
  exact p_iret dX11_swelled_24 rfl (by decide) (by decide) (fun _ h => absurd h List.not_mem_nil) hf
def w_X11_swelled_46 (K : Int → Hh → Prop) (a0 : Int) (s0 : Int) (h : Hh) : Prop := K (w32 s0) h
set_option maxRecDepth 100000 in
set_option maxHeartbeats 4000000 in
theorem t_X11_swelled_46 {G : Gx} {n0 : Int} {K : Int → Hh → Prop} {a0 : Int} (h0 : 0 ≤ a0)  (s0 : Int) (h : Hh) (hf : w_X11_swelled_46 K  a0 s0 h) : PW G M_X11_swelled rm_X11_swelled 0 0 [] n0 K 46 [] [vl s0] [] 0 0 h := by
  unfold w_X11_swelled_46 at hf
  refine p_l2i dX11_swelled_46 ?_
  exact p_iret dX11_swelled_47 rfl (by decide) (by decide) (fun _ h => absurd h List.not_mem_nil) hf
def w_X11_swelled (a0 x1 x2 x3 : Int) (h : Hh) (K : Int → Hh → Prop) : Prop := w_X11_isChart a0 x1 h (fun r1 h2 => if r1 = 0 then (w_X11_swelled_22 K  a0  h2) else (w_X11_in x2 (-100000) 100000 h2 (fun r3 h4 => if r3 ≠ 0 then (if x3 = 0 then (w_X11_swells a0 x1 x2 h4 (fun r5 h6 => w_X11_swelled_46 K  a0 r5 h6)) else (w_X11_back a0 x1 x2 h4 (fun r7 h8 => w_X11_swelled_46 K  a0 r7 h8))) else (w_X11_swelled_22 K  a0  h4))))
set_option maxRecDepth 100000 in
set_option maxHeartbeats 4000000 in
theorem t_X11_swelled {G : Gx} (a0 x1 x2 x3 : Int) (h : Hh) (K : Int → Hh → Prop) (h0 : 0 ≤ a0) (hf : w_X11_swelled a0 x1 x2 x3 h K) : CT G M_X11_swelled rm_X11_swelled 0 0 [] [vr 11 a0 0, vi x1, vi x2, vi x3] h K := by
  unfold w_X11_swelled at hf
  refine CT.of (ls0 := [(0, vr 11 a0 0), (1, vi x1), (2, vi x2), (3, vi x3)]) (plainFor_of_name (by decide +kernel)) (by decide +kernel) (Nat.le_of_ble_eq_true rfl) rfl rfl ?_
  refine p_aload_n dX11_swelled_0 rfl 0 rfl ?_
  refine p_iload_n dX11_swelled_1 rfl 1 rfl ?_
  refine p_callVi dX11_swelled_2 M_X11_isChart (Or.inr rfl) [vi x1] (t_X11_isChart _ _ _ _ h0 hf) ok_X11_isChart rfl (c := 11) (by decide) h0 rfl tb_1165 ⟨tb_1167, ts_81⟩ rfl (Nat.le_of_ble_eq_true rfl) ⟨rfl, rfl⟩ ⟨by decide, by decide⟩ ⟨by decide, by decide⟩ (fun r1 h2 hf => ?_)
  refine p_if_eq (tgt := 22) (q := r1 = 0) dX11_swelled_5 (by decide) Iff.rfl (fun hc => ?_) (fun hc => ?_)
  · replace hf := Eq.mp (if_pos hc) hf
    refine p_sub (ls' := []) [] rfl ?_
    exact t_X11_swelled_22 h0   _ hf
  · replace hf := Eq.mp (if_neg hc) hf
    refine p_iload_n dX11_swelled_8 rfl 2 rfl ?_
    refine p_i2l dX11_swelled_9 ?_
    refine p_ldc2 (z := (-100000)) dX11_swelled_10 tb_1180 (by decide) ?_
    refine p_ldc2 (z := 100000) dX11_swelled_13 tb_1181 (by decide) ?_
    refine p_callSi dX11_swelled_16 M_X11_in (Or.inr rfl) [vl x2, vl (-100000), vl 100000] (t_X11_in _ _ _ _ _ hf) ok_X11_in rfl tb_1079 tb_1080 rfl (Nat.le_of_ble_eq_true rfl) ⟨rfl, rfl⟩ ⟨by decide, by decide⟩ ⟨by decide, by decide⟩ (fun r3 h4 hf => ?_)
    refine p_if_ne (tgt := 25) (q := r3 ≠ 0) dX11_swelled_19 (by decide) Iff.rfl (fun hc => ?_) (fun hc => ?_)
    · replace hf := Eq.mp (if_pos hc) hf
      refine p_iload_n dX11_swelled_25 rfl 3 rfl ?_
      refine p_if_eq (tgt := 39) (q := x3 = 0) dX11_swelled_26 (by decide) Iff.rfl (fun hc => ?_) (fun hc => ?_)
      · replace hf := Eq.mp (if_pos hc) hf
        refine p_aload_n dX11_swelled_39 rfl 0 rfl ?_
        refine p_iload_n dX11_swelled_40 rfl 1 rfl ?_
        refine p_iload_n dX11_swelled_41 rfl 2 rfl ?_
        refine p_i2l dX11_swelled_42 ?_
        refine p_callVl dX11_swelled_43 M_X11_swells rfl [vi x1, vl x2] (t_X11_swells _ _ _ _ _ h0 hf) ok_X11_swells rfl (c := 11) (by decide) h0 rfl tb_1188 ⟨tb_1190, ts_83⟩ rfl (Nat.le_of_ble_eq_true rfl) ⟨rfl, rfl⟩ ⟨by decide, by decide⟩ ⟨by decide, by decide⟩ (fun r5 h6 hf => ?_)
        refine p_sub (ls' := []) [] rfl ?_
        exact t_X11_swelled_46 h0  _ _ hf
      · replace hf := Eq.mp (if_neg hc) hf
        refine p_aload_n dX11_swelled_29 rfl 0 rfl ?_
        refine p_iload_n dX11_swelled_30 rfl 1 rfl ?_
        refine p_iload_n dX11_swelled_31 rfl 2 rfl ?_
        refine p_i2l dX11_swelled_32 ?_
        refine p_callVl dX11_swelled_33 M_X11_back rfl [vi x1, vl x2] (t_X11_back _ _ _ _ _ h0 hf) ok_X11_back rfl (c := 11) (by decide) h0 rfl tb_1182 ⟨tb_1184, ts_82⟩ rfl (Nat.le_of_ble_eq_true rfl) ⟨rfl, rfl⟩ ⟨by decide, by decide⟩ ⟨by decide, by decide⟩ (fun r7 h8 hf => ?_)
        refine p_goto (tgt := 46) dX11_swelled_36 (by decide) ?_
        refine p_sub (ls' := []) [] rfl ?_
        exact t_X11_swelled_46 h0  _ _ hf
    · replace hf := Eq.mp (if_neg hc) hf
      refine p_sub (ls' := []) [] rfl ?_
      exact t_X11_swelled_22 h0   _ hf
theorem ok_X11_swelled : mOK M_X11_swelled 3 := ⟨tb_1179, tb_9, by decide +kernel⟩
abbrev M_X11_numberOf : MD := (yX11_numberOf, cX11_numberOf, 6, some .int)
abbrev rm_X11_numberOf : Room := { frames := 1, cells := 0, slots := 0, locals := 23 }
def w_X11_numberOf_66 (K : Int → Hh → Prop) (B : Int → Int → Int → Int → Int → Hh → Prop) (X72 : Int → Int → Int → Hh → Prop) (a0 : Int) (v1 v2 v3 v4 v5 : Int) (h : Hh) : Prop := vb (w32 (v5 + (-1))) fun z3 => B v1 v2 v3 v4 z3 h
set_option maxRecDepth 100000 in
set_option maxHeartbeats 4000000 in
theorem t_X11_numberOf_66 {G : Gx} {n0 : Int} {K : Int → Hh → Prop} {B : Int → Int → Int → Int → Int → Hh → Prop} {X72 : Int → Int → Int → Hh → Prop} {a0 : Int} (h0 : 0 ≤ a0) (hB : ∀ (v1 v2 v3 v4 v5 : Int) (h : Hh), B v1 v2 v3 v4 v5 h → PW G M_X11_numberOf rm_X11_numberOf 0 0 [] n0 K 8 [(0, vr 11 a0 0), (1, vi v1), (2, vi v2), (3, vi v3), (4, vi v4), (5, vi v5)] [] [] 0 0 h) (hX72 : ∀ (v1 v2 v3 : Int) (h : Hh), X72 v1 v2 v3 h → PW G M_X11_numberOf rm_X11_numberOf 0 0 [] n0 K 72 [(0, vr 11 a0 0), (1, vi v1), (2, vi v2), (3, vi v3)] [] [] 0 0 h)  (v1 v2 v3 v4 v5 : Int) (h : Hh) (hf : w_X11_numberOf_66 K B X72 a0 v1 v2 v3 v4 v5 h) : PW G M_X11_numberOf rm_X11_numberOf 0 0 [] n0 K 66 [(0, vr 11 a0 0), (1, vi v1), (2, vi v2), (3, vi v3), (4, vi v4), (5, vi v5)] [] [] 0 0 h := by
  unfold w_X11_numberOf_66 at hf
  refine p_iinc (ls' := [(5, vi (w32 (v5 + (-1)))), (0, vr 11 a0 0), (1, vi v1), (2, vi v2), (3, vi v3), (4, vi v4)]) dX11_numberOf_66 5 rfl (by decide) rfl ?_
  replace hf := vb_e hf
  generalize w32 (v5 + (-1)) = z3 at hf ⊢
  refine p_goto (tgt := 8) dX11_numberOf_69 (by decide) ?_
  refine p_sub (ls' := [(0, vr 11 a0 0), (1, vi v1), (2, vi v2), (3, vi v3), (4, vi v4), (5, vi z3)]) [1, 2, 3, 4, 5, 0] rfl ?_
  exact hB _ _ _ _ _ _ hf
def w_X11_numberOf_8 (K : Int → Hh → Prop) (X72 : Int → Int → Int → Hh → Prop) (a0 : Int) : Nat → Int → Int → Int → Int → Int → Hh → Prop
  | 0, _, _, _, _, _, _ => False
  | n + 1, v1, v2, v3, v4, v5, h => if v5 < 0 then (X72 v1 v2 v3 h) else (((0 : Int) ≤ v5 ∧ (v5 : Int) < 40) ∧ (if h (a0 + 20) v5 ≠ v1 then (w_X11_numberOf_66 K (w_X11_numberOf_8 K X72 a0 n) X72 a0 v1 v2 v3 v4 v5 h) else (if h (a0 + 21) v5 ≠ v2 then (w_X11_numberOf_66 K (w_X11_numberOf_8 K X72 a0 n) X72 a0 v1 v2 v3 v4 v5 h) else (if h (a0 + 22) v5 ≠ v3 then (w_X11_numberOf_66 K (w_X11_numberOf_8 K X72 a0 n) X72 a0 v1 v2 v3 v4 v5 h) else (if h (a0 + 24) v5 > v4 then (w_X11_numberOf_66 K (w_X11_numberOf_8 K X72 a0 n) X72 a0 v1 v2 v3 v4 v5 h) else (K (h (a0 + 23) v5) h))))))
set_option maxRecDepth 100000 in
set_option maxHeartbeats 4000000 in
theorem t_X11_numberOf_8 {G : Gx} {n0 : Int} {K : Int → Hh → Prop} {X72 : Int → Int → Int → Hh → Prop} {a0 : Int} (h0 : 0 ≤ a0) (hX72 : ∀ (v1 v2 v3 : Int) (h : Hh), X72 v1 v2 v3 h → PW G M_X11_numberOf rm_X11_numberOf 0 0 [] n0 K 72 [(0, vr 11 a0 0), (1, vi v1), (2, vi v2), (3, vi v3)] [] [] 0 0 h) : ∀ (n : Nat) (v1 v2 v3 v4 v5 : Int) (h : Hh), w_X11_numberOf_8 K X72 a0 n v1 v2 v3 v4 v5 h → PW G M_X11_numberOf rm_X11_numberOf 0 0 [] n0 K 8 [(0, vr 11 a0 0), (1, vi v1), (2, vi v2), (3, vi v3), (4, vi v4), (5, vi v5)] [] [] 0 0 h := by
  intro n
  induction n with
  | zero =>
    intro v1 v2 v3 v4 v5 h hf
    rw [w_X11_numberOf_8] at hf
    exact hf.elim
  | succ n ih =>
    intro v1 v2 v3 v4 v5 h hf
    rw [w_X11_numberOf_8] at hf
    refine p_iload dX11_numberOf_8 5 rfl ?_
    refine p_if_lt (tgt := 72) (q := v5 < 0) dX11_numberOf_10 (by decide) Iff.rfl (fun hc => ?_) (fun hc => ?_)
    · replace hf := Eq.mp (if_pos hc) hf
      refine p_sub (ls' := [(0, vr 11 a0 0), (1, vi v1), (2, vi v2), (3, vi v3)]) [0, 1, 2, 3] rfl ?_
      exact hX72 _ _ _ _ hf
    · replace hf := Eq.mp (if_neg hc) hf
      refine p_aload_n dX11_numberOf_13 rfl 0 rfl ?_
      refine p_lay (c := 11) (tq := 100) (n := 40) dX11_numberOf_14 31 20 tb_924 (by decide) (by decide) h0 (by decide) (by decide) (fun _ => rfl) (vr 100 (a0 + 20) 40) rfl ?_
      refine p_iload dX11_numberOf_17 5 rfl ?_
      obtain ⟨c2, hf⟩ := hf
      refine p_iald dX11_numberOf_19 (nnk h0 (by decide)) c2 ?_
      refine p_iload_n dX11_numberOf_20 rfl 1 rfl ?_
      refine p_icmp_ne (tgt := 66) (q := h (a0 + 20) v5 ≠ v1) dX11_numberOf_21 (by decide) Iff.rfl (fun hc => ?_) (fun hc => ?_)
      · replace hf := Eq.mp (if_pos hc) hf
        exact t_X11_numberOf_66 h0 ih hX72 _ _ _ _ _ _ hf
      · replace hf := Eq.mp (if_neg hc) hf
        refine p_aload_n dX11_numberOf_24 rfl 0 rfl ?_
        refine p_lay (c := 11) (tq := 100) (n := 40) dX11_numberOf_25 32 21 tb_925 (by decide) (by decide) h0 (by decide) (by decide) (fun _ => rfl) (vr 100 (a0 + 21) 40) rfl ?_
        refine p_iload dX11_numberOf_28 5 rfl ?_
        refine p_iald dX11_numberOf_30 (nnk h0 (by decide)) c2 ?_
        refine p_iload_n dX11_numberOf_31 rfl 2 rfl ?_
        refine p_icmp_ne (tgt := 66) (q := h (a0 + 21) v5 ≠ v2) dX11_numberOf_32 (by decide) Iff.rfl (fun hc => ?_) (fun hc => ?_)
        · replace hf := Eq.mp (if_pos hc) hf
          exact t_X11_numberOf_66 h0 ih hX72 _ _ _ _ _ _ hf
        · replace hf := Eq.mp (if_neg hc) hf
          refine p_aload_n dX11_numberOf_35 rfl 0 rfl ?_
          refine p_lay (c := 11) (tq := 100) (n := 40) dX11_numberOf_36 33 22 tb_926 (by decide) (by decide) h0 (by decide) (by decide) (fun _ => rfl) (vr 100 (a0 + 22) 40) rfl ?_
          refine p_iload dX11_numberOf_39 5 rfl ?_
          refine p_iald dX11_numberOf_41 (nnk h0 (by decide)) c2 ?_
          refine p_iload_n dX11_numberOf_42 rfl 3 rfl ?_
          refine p_icmp_ne (tgt := 66) (q := h (a0 + 22) v5 ≠ v3) dX11_numberOf_43 (by decide) Iff.rfl (fun hc => ?_) (fun hc => ?_)
          · replace hf := Eq.mp (if_pos hc) hf
            exact t_X11_numberOf_66 h0 ih hX72 _ _ _ _ _ _ hf
          · replace hf := Eq.mp (if_neg hc) hf
            refine p_aload_n dX11_numberOf_46 rfl 0 rfl ?_
            refine p_lay (c := 11) (tq := 100) (n := 40) dX11_numberOf_47 35 24 tb_928 (by decide) (by decide) h0 (by decide) (by decide) (fun _ => rfl) (vr 100 (a0 + 24) 40) rfl ?_
            refine p_iload dX11_numberOf_50 5 rfl ?_
            refine p_iald dX11_numberOf_52 (nnk h0 (by decide)) c2 ?_
            refine p_iload dX11_numberOf_53 4 rfl ?_
            refine p_icmp_gt (tgt := 66) (q := h (a0 + 24) v5 > v4) dX11_numberOf_55 (by decide) Iff.rfl (fun hc => ?_) (fun hc => ?_)
            · replace hf := Eq.mp (if_pos hc) hf
              exact t_X11_numberOf_66 h0 ih hX72 _ _ _ _ _ _ hf
            · replace hf := Eq.mp (if_neg hc) hf
              refine p_aload_n dX11_numberOf_58 rfl 0 rfl ?_
              refine p_lay (c := 11) (tq := 100) (n := 40) dX11_numberOf_59 34 23 tb_927 (by decide) (by decide) h0 (by decide) (by decide) (fun _ => rfl) (vr 100 (a0 + 23) 40) rfl ?_
              refine p_iload dX11_numberOf_62 5 rfl ?_
              refine p_iald dX11_numberOf_64 (nnk h0 (by decide)) c2 ?_
              exact p_iret dX11_numberOf_65 rfl (by decide) (by decide) (fun _ h => absurd h List.not_mem_nil) hf
def w_X11_numberOf (a0 x1 x2 x3 x4 : Int) (h : Hh) (K : Int → Hh → Prop) : Prop := vb (w32 ((h a0 30) - 1)) fun z1 => w_X11_numberOf_8 K (fun u5 u6 u7 h4 => ((0 : Int) ≤ u5 ∧ (u5 : Int) < 6) ∧ (vb (h4 (a0 + 11) u5) fun z9 => ((0 : Int) ≤ w32 ((w32 (5 * z9)) + u6) ∧ (w32 ((w32 (5 * z9)) + u6) : Int) < 30) ∧ (w_X11_valueOf a0 z9 u6 u7 h4 (fun r11 h12 => K (w32 ((h4 (a0 + 8) (w32 ((w32 (5 * z9)) + u6))) * r11)) h12)))) a0 NF x1 x2 x3 x4 z1 h
set_option maxRecDepth 100000 in
set_option maxHeartbeats 4000000 in
theorem t_X11_numberOf {G : Gx} (a0 x1 x2 x3 x4 : Int) (h : Hh) (K : Int → Hh → Prop) (h0 : 0 ≤ a0) (hf : w_X11_numberOf a0 x1 x2 x3 x4 h K) : CT G M_X11_numberOf rm_X11_numberOf 0 0 [] [vr 11 a0 0, vi x1, vi x2, vi x3, vi x4] h K := by
  unfold w_X11_numberOf at hf
  refine CT.of (ls0 := [(0, vr 11 a0 0), (1, vi x1), (2, vi x2), (3, vi x3), (4, vi x4)]) (plainFor_of_name (by decide +kernel)) (by decide +kernel) (Nat.le_of_ble_eq_true rfl) rfl rfl ?_
  refine p_aload_n dX11_numberOf_0 rfl 0 rfl ?_
  refine p_get (c := 11) (vi (h a0 30)) dX11_numberOf_1 30 tb_923 (by decide) (by decide) (Or.inl rfl) h0 rfl rfl ?_
  refine p_iconst dX11_numberOf_4 (by decide) ?_
  refine p_isub dX11_numberOf_5 ?_
  refine p_istore (ls' := [(5, vi (w32 ((h a0 30) - 1))), (0, vr 11 a0 0), (1, vi x1), (2, vi x2), (3, vi x3), (4, vi x4)]) dX11_numberOf_6 (by decide) rfl ?_
  replace hf := vb_e hf
  generalize (w32 ((h a0 30) - 1)) = z1 at hf ⊢
  refine p_sub (ls' := [(0, vr 11 a0 0), (1, vi x1), (2, vi x2), (3, vi x3), (4, vi x4), (5, vi z1)]) [1, 2, 3, 4, 5, 0] rfl ?_
  refine t_X11_numberOf_8 h0 ?_ NF _ _ _ _ _ _ hf
  · intro u5 u6 u7 h4 hf
    refine p_aload_n dX11_numberOf_72 rfl 0 rfl ?_
    refine p_lay (c := 11) (tq := 100) (n := 6) dX11_numberOf_73 19 11 tb_912 (by decide) (by decide) h0 (by decide) (by decide) (fun _ => rfl) (vr 100 (a0 + 11) 6) rfl ?_
    refine p_iload_n dX11_numberOf_76 rfl 1 rfl ?_
    obtain ⟨c8, hf⟩ := hf
    refine p_iald dX11_numberOf_77 (nnk h0 (by decide)) c8 ?_
    refine p_istore (ls' := [(5, vi (h4 (a0 + 11) u5)), (0, vr 11 a0 0), (1, vi u5), (2, vi u6), (3, vi u7)]) dX11_numberOf_78 (by decide) rfl ?_
    replace hf := vb_e hf
    generalize (h4 (a0 + 11) u5) = z9 at hf ⊢
    refine p_aload_n dX11_numberOf_80 rfl 1 rfl ?_
    refine p_lay (c := 11) (tq := 100) (n := 30) dX11_numberOf_81 15 8 tb_908 (by decide) (by decide) h0 (by decide) (by decide) (fun _ => rfl) (vr 100 (a0 + 8) 30) rfl ?_
    refine p_iconst dX11_numberOf_84 (by decide) ?_
    refine p_iload dX11_numberOf_85 0 rfl ?_
    refine p_imul dX11_numberOf_87 ?_
    refine p_iload_n dX11_numberOf_88 rfl 3 rfl ?_
    refine p_iadd dX11_numberOf_89 ?_
    obtain ⟨c10, hf⟩ := hf
    refine p_iald dX11_numberOf_90 (nnk h0 (by decide)) c10 ?_
    refine p_aload_n dX11_numberOf_91 rfl 1 rfl ?_
    refine p_iload dX11_numberOf_92 0 rfl ?_
    refine p_iload_n dX11_numberOf_94 rfl 3 rfl ?_
    refine p_iload_n dX11_numberOf_95 rfl 4 rfl ?_
    refine p_callVi dX11_numberOf_96 M_X11_valueOf (Or.inl rfl) [vi z9, vi u6, vi u7] (t_X11_valueOf _ _ _ _ _ _ h0 hf) ok_X11_valueOf rfl (c := 11) (by decide) h0 rfl tb_1148 ⟨tb_1150, ts_80⟩ rfl (Nat.le_of_ble_eq_true rfl) ⟨rfl, rfl⟩ ⟨by decide, by decide⟩ ⟨by decide, by decide⟩ (fun r11 h12 hf => ?_)
    refine p_imul dX11_numberOf_99 ?_
    exact p_iret dX11_numberOf_100 rfl (by decide) (by decide) (fun _ h => absurd h List.not_mem_nil) hf
theorem ok_X11_numberOf : mOK M_X11_numberOf 4 := ⟨tb_1210, tb_9, by decide +kernel⟩
abbrev M_X11_mid : MD := (yX11_mid, cX11_mid, 4, some .int)
abbrev rm_X11_mid : Room := { frames := 0, cells := 0, slots := 0, locals := 0 }
def w_X11_mid (a0 x1 x2 : Int) (h : Hh) (K : Int → Hh → Prop) : Prop := ((0 : Int) ≤ w32 ((w32 (3 * x1)) + x2) ∧ (w32 ((w32 (3 * x1)) + x2) : Int) < 18) ∧ (vb (h (a0 + 14) (w32 ((w32 (3 * x1)) + x2))) fun z2 => ((0 : Int) ≤ x1 ∧ (x1 : Int) < 6) ∧ ((w32 (z2 + (h (a0 + 15) (w32 ((w32 (3 * x1)) + x2)))) ≠ 0) ∧ (K (w32 (Int.tdiv (w32 ((h (a0 + 13) x1) * z2)) (w32 (z2 + (h (a0 + 15) (w32 ((w32 (3 * x1)) + x2))))))) h)))
set_option maxRecDepth 100000 in
set_option maxHeartbeats 4000000 in
theorem t_X11_mid {G : Gx} (a0 x1 x2 : Int) (h : Hh) (K : Int → Hh → Prop) (h0 : 0 ≤ a0) (hf : w_X11_mid a0 x1 x2 h K) : CT G M_X11_mid rm_X11_mid 0 0 [] [vr 11 a0 0, vi x1, vi x2] h K := by
  unfold w_X11_mid at hf
  refine CT.of (ls0 := [(0, vr 11 a0 0), (1, vi x1), (2, vi x2)]) (plainFor_of_name (by decide +kernel)) (by decide +kernel) (Nat.le_of_ble_eq_true rfl) rfl rfl ?_
  refine p_aload_n dX11_mid_0 rfl 0 rfl ?_
  refine p_lay (c := 11) (tq := 100) (n := 18) dX11_mid_1 22 14 tb_915 (by decide) (by decide) h0 (by decide) (by decide) (fun _ => rfl) (vr 100 (a0 + 14) 18) rfl ?_
  refine p_iconst dX11_mid_4 (by decide) ?_
  refine p_iload_n dX11_mid_5 rfl 1 rfl ?_
  refine p_imul dX11_mid_6 ?_
  refine p_iload_n dX11_mid_7 rfl 2 rfl ?_
  refine p_iadd dX11_mid_8 ?_
  obtain ⟨c1, hf⟩ := hf
  refine p_iald dX11_mid_9 (nnk h0 (by decide)) c1 ?_
  refine p_istore_n (ls' := [(3, vi (h (a0 + 14) (w32 ((w32 (3 * x1)) + x2)))), (0, vr 11 a0 0), (1, vi x1), (2, vi x2)]) dX11_mid_10 rfl (by decide) rfl ?_
  replace hf := vb_e hf
  generalize (h (a0 + 14) (w32 ((w32 (3 * x1)) + x2))) = z2 at hf ⊢
  refine p_aload_n dX11_mid_11 rfl 1 rfl ?_
  refine p_lay (c := 11) (tq := 100) (n := 6) dX11_mid_12 21 13 tb_914 (by decide) (by decide) h0 (by decide) (by decide) (fun _ => rfl) (vr 100 (a0 + 13) 6) rfl ?_
  refine p_iload_n dX11_mid_15 rfl 2 rfl ?_
  obtain ⟨c3, hf⟩ := hf
  refine p_iald dX11_mid_16 (nnk h0 (by decide)) c3 ?_
  refine p_iload_n dX11_mid_17 rfl 0 rfl ?_
  refine p_imul dX11_mid_18 ?_
  refine p_iload_n dX11_mid_19 rfl 0 rfl ?_
  refine p_aload_n dX11_mid_20 rfl 1 rfl ?_
  refine p_lay (c := 11) (tq := 100) (n := 18) dX11_mid_21 23 15 tb_916 (by decide) (by decide) h0 (by decide) (by decide) (fun _ => rfl) (vr 100 (a0 + 15) 18) rfl ?_
  refine p_iconst dX11_mid_24 (by decide) ?_
  refine p_iload_n dX11_mid_25 rfl 2 rfl ?_
  refine p_imul dX11_mid_26 ?_
  refine p_iload_n dX11_mid_27 rfl 3 rfl ?_
  refine p_iadd dX11_mid_28 ?_
  refine p_iald dX11_mid_29 (nnk h0 (by decide)) c1 ?_
  refine p_iadd dX11_mid_30 ?_
  obtain ⟨c4, hf⟩ := hf
  refine p_idiv dX11_mid_31 c4 ?_
  exact p_iret dX11_mid_32 rfl (by decide) (by decide) (fun _ h => absurd h List.not_mem_nil) hf
theorem ok_X11_mid : mOK M_X11_mid 2 := ⟨tb_1218, tb_9, by decide +kernel⟩
abbrev M_X11_sumAt : MD := (yX11_sumAt, cX11_sumAt, 9, some .long)
abbrev rm_X11_sumAt : Room := { frames := 2, cells := 0, slots := 0, locals := 46 }
def w_X11_sumAt (a0 x1 x2 x3 : Int) (h : Hh) (K : Int → Hh → Prop) : Prop := ((0 : Int) ≤ w32 ((w32 (3 * x1)) + x2) ∧ (w32 ((w32 (3 * x1)) + x2) : Int) < 18) ∧ (vb (h (a0 + 14) (w32 ((w32 (3 * x1)) + x2))) fun z2 => vb (h (a0 + 15) (w32 ((w32 (3 * x1)) + x2))) fun z3 => w_X11_nearest (w64 (x3 * (w64 (z2 + z3)))) (w64 (z2 * z3)) h (fun r4 h5 => K r4 h5))
set_option maxRecDepth 100000 in
set_option maxHeartbeats 4000000 in
theorem t_X11_sumAt {G : Gx} (a0 x1 x2 x3 : Int) (h : Hh) (K : Int → Hh → Prop) (h0 : 0 ≤ a0) (hf : w_X11_sumAt a0 x1 x2 x3 h K) : CT G M_X11_sumAt rm_X11_sumAt 0 0 [] [vr 11 a0 0, vi x1, vi x2, vl x3] h K := by
  unfold w_X11_sumAt at hf
  refine CT.of (ls0 := [(0, vr 11 a0 0), (1, vi x1), (2, vi x2), (3, vl x3)]) (plainFor_of_name (by decide +kernel)) (by decide +kernel) (Nat.le_of_ble_eq_true rfl) rfl rfl ?_
  refine p_aload_n dX11_sumAt_0 rfl 0 rfl ?_
  refine p_lay (c := 11) (tq := 100) (n := 18) dX11_sumAt_1 22 14 tb_915 (by decide) (by decide) h0 (by decide) (by decide) (fun _ => rfl) (vr 100 (a0 + 14) 18) rfl ?_
  refine p_iconst dX11_sumAt_4 (by decide) ?_
  refine p_iload_n dX11_sumAt_5 rfl 1 rfl ?_
  refine p_imul dX11_sumAt_6 ?_
  refine p_iload_n dX11_sumAt_7 rfl 2 rfl ?_
  refine p_iadd dX11_sumAt_8 ?_
  obtain ⟨c1, hf⟩ := hf
  refine p_iald dX11_sumAt_9 (nnk h0 (by decide)) c1 ?_
  refine p_i2l dX11_sumAt_10 ?_
  refine p_lstore (ls' := [(5, vl (h (a0 + 14) (w32 ((w32 (3 * x1)) + x2)))), (0, vr 11 a0 0), (1, vi x1), (2, vi x2), (3, vl x3)]) dX11_sumAt_11 (by decide) rfl ?_
  replace hf := vb_e hf
  generalize (h (a0 + 14) (w32 ((w32 (3 * x1)) + x2))) = z2 at hf ⊢
  refine p_aload_n dX11_sumAt_13 rfl 1 rfl ?_
  refine p_lay (c := 11) (tq := 100) (n := 18) dX11_sumAt_14 23 15 tb_916 (by decide) (by decide) h0 (by decide) (by decide) (fun _ => rfl) (vr 100 (a0 + 15) 18) rfl ?_
  refine p_iconst dX11_sumAt_17 (by decide) ?_
  refine p_iload_n dX11_sumAt_18 rfl 2 rfl ?_
  refine p_imul dX11_sumAt_19 ?_
  refine p_iload_n dX11_sumAt_20 rfl 3 rfl ?_
  refine p_iadd dX11_sumAt_21 ?_
  refine p_iald dX11_sumAt_22 (nnk h0 (by decide)) c1 ?_
  refine p_i2l dX11_sumAt_23 ?_
  refine p_lstore (ls' := [(7, vl (h (a0 + 15) (w32 ((w32 (3 * x1)) + x2)))), (5, vl z2), (0, vr 11 a0 0), (1, vi x1), (2, vi x2), (3, vl x3)]) dX11_sumAt_24 (by decide) rfl ?_
  replace hf := vb_e hf
  generalize (h (a0 + 15) (w32 ((w32 (3 * x1)) + x2))) = z3 at hf ⊢
  refine p_lload_n dX11_sumAt_26 rfl 5 rfl ?_
  refine p_lload dX11_sumAt_27 1 rfl ?_
  refine p_lload dX11_sumAt_29 0 rfl ?_
  refine p_ladd dX11_sumAt_31 ?_
  refine p_lmul dX11_sumAt_32 ?_
  refine p_lload dX11_sumAt_33 1 rfl ?_
  refine p_lload dX11_sumAt_35 0 rfl ?_
  refine p_lmul dX11_sumAt_37 ?_
  refine p_callSl dX11_sumAt_38 M_X11_nearest rfl [vl (w64 (x3 * (w64 (z2 + z3)))), vl (w64 (z2 * z3))] (t_X11_nearest _ _ _ _ hf) ok_X11_nearest rfl tb_1138 tb_1139 rfl (Nat.le_of_ble_eq_true rfl) ⟨rfl, rfl⟩ ⟨by decide, by decide⟩ ⟨by decide, by decide⟩ (fun r4 h5 hf => ?_)
  exact p_lret dX11_sumAt_41 rfl (by decide) (by decide) (fun _ h => absurd h List.not_mem_nil) hf
theorem ok_X11_sumAt : mOK M_X11_sumAt 3 := ⟨tb_1222, tb_9, by decide +kernel⟩
abbrev M_X11_goes : MD := (yX11_goes, cX11_goes, 8, some .long)
abbrev rm_X11_goes : Room := { frames := 3, cells := 0, slots := 0, locals := 76 }
def w_X11_goes_25 (K : Int → Hh → Prop) (X202 : Int → Int → Hh → Prop) (a0 : Int) : Nat → Int → Int → Int → Int → Hh → Prop
  | 0, _, _, _, _, _ => False
  | n + 1, v1, v2, v3, v5, h => w_X11_pagesOf a0 v1 h (fun r5 h6 => if v5 ≥ r5 then (X202 v1 v3 h6) else (((0 : Int) ≤ w32 ((w32 ((w32 (4 * v1)) + v5)) + 1) ∧ (w32 ((w32 ((w32 (4 * v1)) + v5)) + 1) : Int) < 24) ∧ (((0 : Int) ≤ w32 (v5 + 1) ∧ (w32 (v5 + 1) : Int) < 4) ∧ (w_X11_numberOf a0 v1 (h6 (a0 + 12) (w32 ((w32 ((w32 (4 * v1)) + v5)) + 1))) (h6 (a0 + 31) (w32 (v5 + 1))) v2 h6 (fun r9 h10 => ((0 : Int) ≤ w32 ((w32 (3 * v1)) + v5) ∧ (w32 ((w32 (3 * v1)) + v5) : Int) < 18) ∧ (w_X11_swells a0 v1 (w64 ((h10 (a0 + 14) (w32 ((w32 (3 * v1)) + v5))) * v3)) h10 (fun r12 h13 => ((0 : Int) ≤ v5 ∧ (v5 : Int) < 3) ∧ (hb (up h13 (a0 + 32) v5 r12) fun h15 => w_X11_swells a0 v1 (w64 ((h15 (a0 + 15) (w32 ((w32 (3 * v1)) + v5))) * r9)) h15 (fun r16 h17 => hb (up h17 (a0 + 33) v5 r16) fun h18 => w_X11_mid a0 v1 v5 h18 (fun r19 h20 => ((0 : Int) ≤ v1 ∧ (v1 : Int) < 6) ∧ (w_X11_nearest (w64 ((w64 ((h18 (a0 + 33) v5) - (h18 (a0 + 32) v5))) * r19)) (h20 (a0 + 13) v1) h20 (fun r22 h23 => hb (up h23 (a0 + 34) v5 (w64 ((h18 (a0 + 32) v5) + r22))) fun h24 => w_X11_back a0 v1 (h24 (a0 + 34) v5) h24 (fun r25 h26 => w_X11_sumAt a0 v1 v5 r25 h26 (fun r27 h28 => hb (up h28 (a0 + 35) v5 r27) fun h29 => vb (w32 (v5 + 1)) fun z30 => w_X11_goes_25 K X202 a0 n v1 v2 r27 z30 h29))))))))))))))
set_option maxRecDepth 100000 in
set_option maxHeartbeats 4000000 in
theorem t_X11_goes_25 {G : Gx} {n0 : Int} {K : Int → Hh → Prop} {X202 : Int → Int → Hh → Prop} {a0 : Int} (h0 : 0 ≤ a0) (hX202 : ∀ (v1 v3 : Int) (h : Hh), X202 v1 v3 h → PW G M_X11_goes rm_X11_goes 0 0 [] n0 K 202 [(0, vr 11 a0 0), (1, vi v1), (3, vl v3)] [] [] 0 0 h) : ∀ (n : Nat) (v1 v2 v3 v5 : Int) (h : Hh), w_X11_goes_25 K X202 a0 n v1 v2 v3 v5 h → PW G M_X11_goes rm_X11_goes 0 0 [] n0 K 25 [(0, vr 11 a0 0), (1, vi v1), (2, vi v2), (3, vl v3), (5, vi v5)] [] [] 0 0 h := by
  intro n
  induction n with
  | zero =>
    intro v1 v2 v3 v5 h hf
    rw [w_X11_goes_25] at hf
    exact hf.elim
  | succ n ih =>
    intro v1 v2 v3 v5 h hf
    rw [w_X11_goes_25] at hf
    refine p_iload dX11_goes_25 4 rfl ?_
    refine p_aload_n dX11_goes_27 rfl 0 rfl ?_
    refine p_iload_n dX11_goes_28 rfl 1 rfl ?_
    refine p_callVi dX11_goes_29 M_X11_pagesOf (Or.inl rfl) [vi v1] (t_X11_pagesOf _ _ _ _ h0 hf) ok_X11_pagesOf rfl (c := 11) (by decide) h0 rfl tb_1211 ⟨tb_1213, ts_87⟩ rfl (Nat.le_of_ble_eq_true rfl) ⟨rfl, rfl⟩ ⟨by decide, by decide⟩ ⟨by decide, by decide⟩ (fun r5 h6 hf => ?_)
    refine p_icmp_ge (tgt := 202) (q := v5 ≥ r5) dX11_goes_32 (by decide) Iff.rfl (fun hc => ?_) (fun hc => ?_)
    · replace hf := Eq.mp (if_pos hc) hf
      refine p_sub (ls' := [(0, vr 11 a0 0), (1, vi v1), (3, vl v3)]) [0, 1, 3] rfl ?_
      exact hX202 _ _ _ hf
    · replace hf := Eq.mp (if_neg hc) hf
      refine p_aload_n dX11_goes_35 rfl 0 rfl ?_
      refine p_iload_n dX11_goes_36 rfl 1 rfl ?_
      refine p_aload_n dX11_goes_37 rfl 0 rfl ?_
      refine p_lay (c := 11) (tq := 100) (n := 24) dX11_goes_38 20 12 tb_913 (by decide) (by decide) h0 (by decide) (by decide) (fun _ => rfl) (vr 100 (a0 + 12) 24) rfl ?_
      refine p_iconst dX11_goes_41 (by decide) ?_
      refine p_iload_n dX11_goes_42 rfl 1 rfl ?_
      refine p_imul dX11_goes_43 ?_
      refine p_iload dX11_goes_44 4 rfl ?_
      refine p_iadd dX11_goes_46 ?_
      refine p_iconst dX11_goes_47 (by decide) ?_
      refine p_iadd dX11_goes_48 ?_
      obtain ⟨c7, hf⟩ := hf
      refine p_iald dX11_goes_49 (nnk h0 (by decide)) c7 ?_
      refine p_aload_n dX11_goes_50 rfl 0 rfl ?_
      refine p_lay (c := 11) (tq := 100) (n := 4) dX11_goes_51 44 31 tb_937 (by decide) (by decide) h0 (by decide) (by decide) (fun _ => rfl) (vr 100 (a0 + 31) 4) rfl ?_
      refine p_iload dX11_goes_54 4 rfl ?_
      refine p_iconst dX11_goes_56 (by decide) ?_
      refine p_iadd dX11_goes_57 ?_
      obtain ⟨c8, hf⟩ := hf
      refine p_iald dX11_goes_58 (nnk h0 (by decide)) c8 ?_
      refine p_iload_n dX11_goes_59 rfl 2 rfl ?_
      refine p_callVi dX11_goes_60 M_X11_numberOf (Or.inl rfl) [vi v1, vi (h6 (a0 + 12) (w32 ((w32 ((w32 (4 * v1)) + v5)) + 1))), vi (h6 (a0 + 31) (w32 (v5 + 1))), vi v2] (t_X11_numberOf _ _ _ _ _ _ _ h0 hf) ok_X11_numberOf rfl (c := 11) (by decide) h0 rfl tb_1207 ⟨tb_1209, ts_86⟩ rfl (Nat.le_of_ble_eq_true rfl) ⟨rfl, rfl⟩ ⟨by decide, by decide⟩ ⟨by decide, by decide⟩ (fun r9 h10 hf => ?_)
      refine p_i2l dX11_goes_63 ?_
      refine p_lstore (ls' := [(6, vl r9), (0, vr 11 a0 0), (1, vi v1), (2, vi v2), (3, vl v3), (5, vi v5)]) dX11_goes_64 (by decide) rfl ?_
      refine p_aload_n dX11_goes_66 rfl 1 rfl ?_
      refine p_lay (c := 11) (tq := 101) (n := 3) dX11_goes_67 45 32 tb_938 (by decide) (by decide) h0 (by decide) (by decide) (fun _ => rfl) (vr 101 (a0 + 32) 3) rfl ?_
      refine p_iload dX11_goes_70 5 rfl ?_
      refine p_aload_n dX11_goes_72 rfl 1 rfl ?_
      refine p_iload_n dX11_goes_73 rfl 2 rfl ?_
      refine p_aload_n dX11_goes_74 rfl 1 rfl ?_
      refine p_lay (c := 11) (tq := 100) (n := 18) dX11_goes_75 22 14 tb_915 (by decide) (by decide) h0 (by decide) (by decide) (fun _ => rfl) (vr 100 (a0 + 14) 18) rfl ?_
      refine p_iconst dX11_goes_78 (by decide) ?_
      refine p_iload_n dX11_goes_79 rfl 2 rfl ?_
      refine p_imul dX11_goes_80 ?_
      refine p_iload dX11_goes_81 5 rfl ?_
      refine p_iadd dX11_goes_83 ?_
      obtain ⟨c11, hf⟩ := hf
      refine p_iald dX11_goes_84 (nnk h0 (by decide)) c11 ?_
      refine p_i2l dX11_goes_85 ?_
      refine p_lload_n dX11_goes_86 rfl 4 rfl ?_
      refine p_lmul dX11_goes_87 ?_
      refine p_callVl dX11_goes_88 M_X11_swells rfl [vi v1, vl (w64 ((h10 (a0 + 14) (w32 ((w32 (3 * v1)) + v5))) * v3))] (t_X11_swells _ _ _ _ _ h0 hf) ok_X11_swells rfl (c := 11) (by decide) h0 rfl tb_1188 ⟨tb_1190, ts_83⟩ rfl (Nat.le_of_ble_eq_true rfl) ⟨rfl, rfl⟩ ⟨by decide, by decide⟩ ⟨by decide, by decide⟩ (fun r12 h13 hf => ?_)
      obtain ⟨c14, hf⟩ := hf
      refine p_last dX11_goes_91 (nnk h0 (by decide)) c14 ?_
      replace hf := hb_e hf
      generalize up h13 (a0 + 32) v5 r12 = h15 at hf ⊢
      refine p_aload_n dX11_goes_92 rfl 1 rfl ?_
      refine p_lay (c := 11) (tq := 101) (n := 3) dX11_goes_93 46 33 tb_939 (by decide) (by decide) h0 (by decide) (by decide) (fun _ => rfl) (vr 101 (a0 + 33) 3) rfl ?_
      refine p_iload dX11_goes_96 5 rfl ?_
      refine p_aload_n dX11_goes_98 rfl 1 rfl ?_
      refine p_iload_n dX11_goes_99 rfl 2 rfl ?_
      refine p_aload_n dX11_goes_100 rfl 1 rfl ?_
      refine p_lay (c := 11) (tq := 100) (n := 18) dX11_goes_101 23 15 tb_916 (by decide) (by decide) h0 (by decide) (by decide) (fun _ => rfl) (vr 100 (a0 + 15) 18) rfl ?_
      refine p_iconst dX11_goes_104 (by decide) ?_
      refine p_iload_n dX11_goes_105 rfl 2 rfl ?_
      refine p_imul dX11_goes_106 ?_
      refine p_iload dX11_goes_107 5 rfl ?_
      refine p_iadd dX11_goes_109 ?_
      refine p_iald dX11_goes_110 (nnk h0 (by decide)) c11 ?_
      refine p_i2l dX11_goes_111 ?_
      refine p_lload dX11_goes_112 0 rfl ?_
      refine p_lmul dX11_goes_114 ?_
      refine p_callVl dX11_goes_115 M_X11_swells rfl [vi v1, vl (w64 ((h15 (a0 + 15) (w32 ((w32 (3 * v1)) + v5))) * r9))] (t_X11_swells _ _ _ _ _ h0 hf) ok_X11_swells rfl (c := 11) (by decide) h0 rfl tb_1188 ⟨tb_1190, ts_83⟩ rfl (Nat.le_of_ble_eq_true rfl) ⟨rfl, rfl⟩ ⟨by decide, by decide⟩ ⟨by decide, by decide⟩ (fun r16 h17 hf => ?_)
      refine p_last dX11_goes_118 (nnk h0 (by decide)) c14 ?_
      replace hf := hb_e hf
      generalize up h17 (a0 + 33) v5 r16 = h18 at hf ⊢
      refine p_aload_n dX11_goes_119 rfl 1 rfl ?_
      refine p_lay (c := 11) (tq := 101) (n := 3) dX11_goes_120 47 34 tb_940 (by decide) (by decide) h0 (by decide) (by decide) (fun _ => rfl) (vr 101 (a0 + 34) 3) rfl ?_
      refine p_iload dX11_goes_123 5 rfl ?_
      refine p_aload_n dX11_goes_125 rfl 1 rfl ?_
      refine p_lay (c := 11) (tq := 101) (n := 3) dX11_goes_126 45 32 tb_938 (by decide) (by decide) h0 (by decide) (by decide) (fun _ => rfl) (vr 101 (a0 + 32) 3) rfl ?_
      refine p_iload dX11_goes_129 5 rfl ?_
      refine p_lald dX11_goes_131 (nnk h0 (by decide)) c14 ?_
      refine p_aload_n dX11_goes_132 rfl 1 rfl ?_
      refine p_lay (c := 11) (tq := 101) (n := 3) dX11_goes_133 46 33 tb_939 (by decide) (by decide) h0 (by decide) (by decide) (fun _ => rfl) (vr 101 (a0 + 33) 3) rfl ?_
      refine p_iload dX11_goes_136 5 rfl ?_
      refine p_lald dX11_goes_138 (nnk h0 (by decide)) c14 ?_
      refine p_aload_n dX11_goes_139 rfl 1 rfl ?_
      refine p_lay (c := 11) (tq := 101) (n := 3) dX11_goes_140 45 32 tb_938 (by decide) (by decide) h0 (by decide) (by decide) (fun _ => rfl) (vr 101 (a0 + 32) 3) rfl ?_
      refine p_iload dX11_goes_143 5 rfl ?_
      refine p_lald dX11_goes_145 (nnk h0 (by decide)) c14 ?_
      refine p_lsub dX11_goes_146 ?_
      refine p_aload_n dX11_goes_147 rfl 1 rfl ?_
      refine p_iload_n dX11_goes_148 rfl 2 rfl ?_
      refine p_iload dX11_goes_149 5 rfl ?_
      refine p_callVi dX11_goes_151 M_X11_mid (Or.inl rfl) [vi v1, vi v5] (t_X11_mid _ _ _ _ _ h0 hf) ok_X11_mid rfl (c := 11) (by decide) h0 rfl tb_1215 ⟨tb_1217, ts_88⟩ rfl (Nat.le_of_ble_eq_true rfl) ⟨rfl, rfl⟩ ⟨by decide, by decide⟩ ⟨by decide, by decide⟩ (fun r19 h20 hf => ?_)
      refine p_i2l dX11_goes_154 ?_
      refine p_lmul dX11_goes_155 ?_
      refine p_aload_n dX11_goes_156 rfl 1 rfl ?_
      refine p_lay (c := 11) (tq := 100) (n := 6) dX11_goes_157 21 13 tb_914 (by decide) (by decide) h0 (by decide) (by decide) (fun _ => rfl) (vr 100 (a0 + 13) 6) rfl ?_
      refine p_iload_n dX11_goes_160 rfl 2 rfl ?_
      obtain ⟨c21, hf⟩ := hf
      refine p_iald dX11_goes_161 (nnk h0 (by decide)) c21 ?_
      refine p_i2l dX11_goes_162 ?_
      refine p_callSl dX11_goes_163 M_X11_nearest rfl [vl (w64 ((w64 ((h18 (a0 + 33) v5) - (h18 (a0 + 32) v5))) * r19)), vl (h20 (a0 + 13) v1)] (t_X11_nearest _ _ _ _ hf) ok_X11_nearest rfl tb_1138 tb_1139 rfl (Nat.le_of_ble_eq_true rfl) ⟨rfl, rfl⟩ ⟨by decide, by decide⟩ ⟨by decide, by decide⟩ (fun r22 h23 hf => ?_)
      refine p_ladd dX11_goes_166 ?_
      refine p_last dX11_goes_167 (nnk h0 (by decide)) c14 ?_
      replace hf := hb_e hf
      generalize up h23 (a0 + 34) v5 (w64 ((h18 (a0 + 32) v5) + r22)) = h24 at hf ⊢
      refine p_aload_n dX11_goes_168 rfl 1 rfl ?_
      refine p_iload_n dX11_goes_169 rfl 2 rfl ?_
      refine p_iload dX11_goes_170 5 rfl ?_
      refine p_aload_n dX11_goes_172 rfl 1 rfl ?_
      refine p_iload_n dX11_goes_173 rfl 2 rfl ?_
      refine p_aload_n dX11_goes_174 rfl 1 rfl ?_
      refine p_lay (c := 11) (tq := 101) (n := 3) dX11_goes_175 47 34 tb_940 (by decide) (by decide) h0 (by decide) (by decide) (fun _ => rfl) (vr 101 (a0 + 34) 3) rfl ?_
      refine p_iload dX11_goes_178 5 rfl ?_
      refine p_lald dX11_goes_180 (nnk h0 (by decide)) c14 ?_
      refine p_callVl dX11_goes_181 M_X11_back rfl [vi v1, vl (h24 (a0 + 34) v5)] (t_X11_back _ _ _ _ _ h0 hf) ok_X11_back rfl (c := 11) (by decide) h0 rfl tb_1182 ⟨tb_1184, ts_82⟩ rfl (Nat.le_of_ble_eq_true rfl) ⟨rfl, rfl⟩ ⟨by decide, by decide⟩ ⟨by decide, by decide⟩ (fun r25 h26 hf => ?_)
      refine p_callVl dX11_goes_184 M_X11_sumAt rfl [vi v1, vi v5, vl r25] (t_X11_sumAt _ _ _ _ _ _ h0 hf) ok_X11_sumAt rfl (c := 11) (by decide) h0 rfl tb_1219 ⟨tb_1221, ts_89⟩ rfl (Nat.le_of_ble_eq_true rfl) ⟨rfl, rfl⟩ ⟨by decide, by decide⟩ ⟨by decide, by decide⟩ (fun r27 h28 hf => ?_)
      refine p_lstore_n (ls' := [(3, vl r27), (6, vl r9), (0, vr 11 a0 0), (1, vi v1), (2, vi v2), (5, vi v5)]) dX11_goes_187 rfl (by decide) rfl ?_
      refine p_aload_n dX11_goes_188 rfl 2 rfl ?_
      refine p_lay (c := 11) (tq := 101) (n := 3) dX11_goes_189 48 35 tb_941 (by decide) (by decide) h0 (by decide) (by decide) (fun _ => rfl) (vr 101 (a0 + 35) 3) rfl ?_
      refine p_iload dX11_goes_192 5 rfl ?_
      refine p_lload_n dX11_goes_194 rfl 0 rfl ?_
      refine p_last dX11_goes_195 (nnk h0 (by decide)) c14 ?_
      replace hf := hb_e hf
      generalize up h28 (a0 + 35) v5 r27 = h29 at hf ⊢
      refine p_iinc (ls' := [(5, vi (w32 (v5 + 1))), (3, vl r27), (6, vl r9), (0, vr 11 a0 0), (1, vi v1), (2, vi v2)]) dX11_goes_196 5 rfl (by decide) rfl ?_
      replace hf := vb_e hf
      generalize w32 (v5 + 1) = z30 at hf ⊢
      refine p_goto (tgt := 25) dX11_goes_199 (by decide) ?_
      refine p_sub (ls' := [(0, vr 11 a0 0), (1, vi v1), (2, vi v2), (3, vl r27), (5, vi z30)]) [3, 4, 5, 1, 0] rfl ?_
      exact ih _ _ _ _ _ hf
def w_X11_goes (a0 x1 x2 : Int) (h : Hh) (K : Int → Hh → Prop) : Prop := ((0 : Int) ≤ w32 (4 * x1) ∧ (w32 (4 * x1) : Int) < 24) ∧ (((0 : Int) ≤ 0 ∧ (0 : Int) < 4) ∧ (w_X11_numberOf a0 x1 (h (a0 + 12) (w32 (4 * x1))) (h (a0 + 31) 0) x2 h (fun r3 h4 => w_X11_goes_25 K (fun u32 u33 h31 => ((0 : Int) ≤ u32 ∧ (u32 : Int) < 6) ∧ (((0 : Int) ≤ h31 (a0 + 11) u32 ∧ (h31 (a0 + 11) u32 : Int) < 6) ∧ (K (w64 (u33 + (h31 (a0 + 6) (h31 (a0 + 11) u32)))) h31))) a0 NF x1 x2 r3 0 h4)))
set_option maxRecDepth 100000 in
set_option maxHeartbeats 4000000 in
theorem t_X11_goes {G : Gx} (a0 x1 x2 : Int) (h : Hh) (K : Int → Hh → Prop) (h0 : 0 ≤ a0) (hf : w_X11_goes a0 x1 x2 h K) : CT G M_X11_goes rm_X11_goes 0 0 [] [vr 11 a0 0, vi x1, vi x2] h K := by
  unfold w_X11_goes at hf
  refine CT.of (ls0 := [(0, vr 11 a0 0), (1, vi x1), (2, vi x2)]) (plainFor_of_name (by decide +kernel)) (by decide +kernel) (Nat.le_of_ble_eq_true rfl) rfl rfl ?_
  refine p_aload_n dX11_goes_0 rfl 0 rfl ?_
  refine p_iload_n dX11_goes_1 rfl 1 rfl ?_
  refine p_aload_n dX11_goes_2 rfl 0 rfl ?_
  refine p_lay (c := 11) (tq := 100) (n := 24) dX11_goes_3 20 12 tb_913 (by decide) (by decide) h0 (by decide) (by decide) (fun _ => rfl) (vr 100 (a0 + 12) 24) rfl ?_
  refine p_iconst dX11_goes_6 (by decide) ?_
  refine p_iload_n dX11_goes_7 rfl 1 rfl ?_
  refine p_imul dX11_goes_8 ?_
  obtain ⟨c1, hf⟩ := hf
  refine p_iald dX11_goes_9 (nnk h0 (by decide)) c1 ?_
  refine p_aload_n dX11_goes_10 rfl 0 rfl ?_
  refine p_lay (c := 11) (tq := 100) (n := 4) dX11_goes_11 44 31 tb_937 (by decide) (by decide) h0 (by decide) (by decide) (fun _ => rfl) (vr 100 (a0 + 31) 4) rfl ?_
  refine p_iconst dX11_goes_14 (by decide) ?_
  obtain ⟨c2, hf⟩ := hf
  refine p_iald dX11_goes_15 (nnk h0 (by decide)) c2 ?_
  refine p_iload_n dX11_goes_16 rfl 2 rfl ?_
  refine p_callVi dX11_goes_17 M_X11_numberOf (Or.inl rfl) [vi x1, vi (h (a0 + 12) (w32 (4 * x1))), vi (h (a0 + 31) 0), vi x2] (t_X11_numberOf _ _ _ _ _ _ _ h0 hf) ok_X11_numberOf rfl (c := 11) (by decide) h0 rfl tb_1207 ⟨tb_1209, ts_86⟩ rfl (Nat.le_of_ble_eq_true rfl) ⟨rfl, rfl⟩ ⟨by decide, by decide⟩ ⟨by decide, by decide⟩ (fun r3 h4 hf => ?_)
  refine p_i2l dX11_goes_20 ?_
  refine p_lstore_n (ls' := [(3, vl r3), (0, vr 11 a0 0), (1, vi x1), (2, vi x2)]) dX11_goes_21 rfl (by decide) rfl ?_
  refine p_iconst dX11_goes_22 (by decide) ?_
  refine p_istore (ls' := [(5, vi 0), (3, vl r3), (0, vr 11 a0 0), (1, vi x1), (2, vi x2)]) dX11_goes_23 (by decide) rfl ?_
  refine p_sub (ls' := [(0, vr 11 a0 0), (1, vi x1), (2, vi x2), (3, vl r3), (5, vi 0)]) [2, 3, 4, 1, 0] rfl ?_
  refine t_X11_goes_25 h0 ?_ NF _ _ _ _ _ hf
  · intro u32 u33 h31 hf
    refine p_lload_n dX11_goes_202 rfl 2 rfl ?_
    refine p_aload_n dX11_goes_203 rfl 0 rfl ?_
    refine p_lay (c := 11) (tq := 100) (n := 6) dX11_goes_204 13 6 tb_906 (by decide) (by decide) h0 (by decide) (by decide) (fun _ => rfl) (vr 100 (a0 + 6) 6) rfl ?_
    refine p_aload_n dX11_goes_207 rfl 0 rfl ?_
    refine p_lay (c := 11) (tq := 100) (n := 6) dX11_goes_208 19 11 tb_912 (by decide) (by decide) h0 (by decide) (by decide) (fun _ => rfl) (vr 100 (a0 + 11) 6) rfl ?_
    refine p_iload_n dX11_goes_211 rfl 1 rfl ?_
    obtain ⟨c34, hf⟩ := hf
    refine p_iald dX11_goes_212 (nnk h0 (by decide)) c34 ?_
    obtain ⟨c35, hf⟩ := hf
    refine p_iald dX11_goes_213 (nnk h0 (by decide)) c35 ?_
    refine p_i2l dX11_goes_214 ?_
    refine p_ladd dX11_goes_215 ?_
    exact p_lret dX11_goes_216 rfl (by decide) (by decide) (fun _ h => absurd h List.not_mem_nil) hf
theorem ok_X11_goes : mOK M_X11_goes 2 := ⟨tb_1206, tb_9, by decide +kernel⟩
abbrev M_X11_takes : MD := (yX11_takes, cX11_takes, 4, none)
abbrev rm_X11_takes : Room := { frames := 0, cells := 0, slots := 0, locals := 0 }
def w_X11_takes_2 (K : Int → Hh → Prop) (a0 : Int) : Nat → Int → Int → Int → Int → Hh → Prop
  | 0, _, _, _, _, _ => False
  | n + 1, v1, v1n, v2, v3, h => if v3 ≥ 4 then (K 0 h) else (0 ≤ v1 ∧ (((0 : Int) ≤ w32 (v2 + v3) ∧ (w32 (v2 + v3) : Int) < v1n) ∧ (((0 : Int) ≤ v3 ∧ (v3 : Int) < 4) ∧ (hb (up h (a0 + 31) v3 (h v1 (w32 (v2 + v3)))) fun h4 => vb (w32 (v3 + 1)) fun z5 => w_X11_takes_2 K  a0 n v1 v1n v2 z5 h4))))
set_option maxRecDepth 100000 in
set_option maxHeartbeats 4000000 in
theorem t_X11_takes_2 {G : Gx} {n0 : Int} {K : Int → Hh → Prop} {a0 : Int} (h0 : 0 ≤ a0) : ∀ (n : Nat) (v1 v1n v2 v3 : Int) (h : Hh), w_X11_takes_2 K  a0 n v1 v1n v2 v3 h → PW G M_X11_takes rm_X11_takes 0 0 [] n0 K 2 [(0, vr 11 a0 0), (1, vr 100 v1 v1n), (2, vi v2), (3, vi v3)] [] [] 0 0 h := by
  intro n
  induction n with
  | zero =>
    intro v1 v1n v2 v3 h hf
    rw [w_X11_takes_2] at hf
    exact hf.elim
  | succ n ih =>
    intro v1 v1n v2 v3 h hf
    rw [w_X11_takes_2] at hf
    refine p_iload_n dX11_takes_2 rfl 3 rfl ?_
    refine p_iconst dX11_takes_3 (by decide) ?_
    refine p_icmp_ge (tgt := 24) (q := v3 ≥ 4) dX11_takes_4 (by decide) Iff.rfl (fun hc => ?_) (fun hc => ?_)
    · replace hf := Eq.mp (if_pos hc) hf
      exact p_vret dX11_takes_24 rfl (by decide) (by decide) (fun _ h => absurd h List.not_mem_nil) hf
    · replace hf := Eq.mp (if_neg hc) hf
      refine p_aload_n dX11_takes_7 rfl 0 rfl ?_
      refine p_lay (c := 11) (tq := 100) (n := 4) dX11_takes_8 44 31 tb_937 (by decide) (by decide) h0 (by decide) (by decide) (fun _ => rfl) (vr 100 (a0 + 31) 4) rfl ?_
      refine p_iload_n dX11_takes_11 rfl 3 rfl ?_
      refine p_aload_n dX11_takes_12 rfl 1 rfl ?_
      refine p_iload_n dX11_takes_13 rfl 2 rfl ?_
      refine p_iload_n dX11_takes_14 rfl 3 rfl ?_
      refine p_iadd dX11_takes_15 ?_
      obtain ⟨c1, hf⟩ := hf
      obtain ⟨c2, hf⟩ := hf
      refine p_iald dX11_takes_16 c1 c2 ?_
      obtain ⟨c3, hf⟩ := hf
      refine p_iast dX11_takes_17 (nnk h0 (by decide)) c3 ?_
      replace hf := hb_e hf
      generalize up h (a0 + 31) v3 (h v1 (w32 (v2 + v3))) = h4 at hf ⊢
      refine p_iinc (ls' := [(3, vi (w32 (v3 + 1))), (0, vr 11 a0 0), (1, vr 100 v1 v1n), (2, vi v2)]) dX11_takes_18 3 rfl (by decide) rfl ?_
      replace hf := vb_e hf
      generalize w32 (v3 + 1) = z5 at hf ⊢
      refine p_goto (tgt := 2) dX11_takes_21 (by decide) ?_
      refine p_sub (ls' := [(0, vr 11 a0 0), (1, vr 100 v1 v1n), (2, vi v2), (3, vi z5)]) [1, 2, 3, 0] rfl ?_
      exact ih _ _ _ _ _ hf
def w_X11_takes (a0 x1 n1 x2 : Int) (h : Hh) (K : Int → Hh → Prop) : Prop := w_X11_takes_2 K  a0 NF x1 n1 x2 0 h
set_option maxRecDepth 100000 in
set_option maxHeartbeats 4000000 in
theorem t_X11_takes {G : Gx} (a0 x1 n1 x2 : Int) (h : Hh) (K : Int → Hh → Prop) (h0 : 0 ≤ a0) (hf : w_X11_takes a0 x1 n1 x2 h K) : CT G M_X11_takes rm_X11_takes 0 0 [] [vr 11 a0 0, vr 100 x1 n1, vi x2] h K := by
  unfold w_X11_takes at hf
  refine CT.of (ls0 := [(0, vr 11 a0 0), (1, vr 100 x1 n1), (2, vi x2)]) (plainFor_of_name (by decide +kernel)) (by decide +kernel) (Nat.le_of_ble_eq_true rfl) rfl rfl ?_
  refine p_iconst dX11_takes_0 (by decide) ?_
  refine p_istore_n (ls' := [(3, vi 0), (0, vr 11 a0 0), (1, vr 100 x1 n1), (2, vi x2)]) dX11_takes_1 rfl (by decide) rfl ?_
  refine p_sub (ls' := [(0, vr 11 a0 0), (1, vr 100 x1 n1), (2, vi x2), (3, vi 0)]) [1, 2, 3, 0] rfl ?_
  refine t_X11_takes_2 h0  NF _ _ _ _ _ hf
theorem ok_X11_takes : mOK M_X11_takes 2 := ⟨tb_1202, tb_9, by decide +kernel⟩
abbrev M_X11_tenths : MD := (yX11_tenths, cX11_tenths, 17, some .int)
abbrev rm_X11_tenths : Room := { frames := 1, cells := 0, slots := 0, locals := 23 }
def w_X11_tenths_97 (K : Int → Hh → Prop) (B : Int → Int → Int → Int → Int → Int → Int → Int → Int → Int → Int → Hh → Prop) (X103 : Int → Int → Int → Int → Int → Int → Int → Int → Hh → Prop) (a0 : Int) (v1 v2 v4 v5 v7 v8 v9 v11 v12 v13 v15 : Int) (h : Hh) : Prop := vb (w32 (v15 + 1)) fun z5 => B v1 v2 v4 v5 v7 v8 v9 v11 v12 v13 z5 h
set_option maxRecDepth 100000 in
set_option maxHeartbeats 4000000 in
theorem t_X11_tenths_97 {G : Gx} {n0 : Int} {K : Int → Hh → Prop} {B : Int → Int → Int → Int → Int → Int → Int → Int → Int → Int → Int → Hh → Prop} {X103 : Int → Int → Int → Int → Int → Int → Int → Int → Hh → Prop} {a0 : Int} (h0 : 0 ≤ a0) (hB : ∀ (v1 v2 v4 v5 v7 v8 v9 v11 v12 v13 v15 : Int) (h : Hh), B v1 v2 v4 v5 v7 v8 v9 v11 v12 v13 v15 h → PW G M_X11_tenths rm_X11_tenths 0 0 [] n0 K 41 [(0, vr 11 a0 0), (1, vi v1), (2, vl v2), (4, vi v4), (5, vl v5), (7, vi v7), (8, vi v8), (9, vl v9), (11, vi v11), (12, vi v12), (13, vl v13), (15, vi v15)] [] [] 0 0 h) (hX103 : ∀ (v1 v2 v4 v8 v9 v11 v12 v13 : Int) (h : Hh), X103 v1 v2 v4 v8 v9 v11 v12 v13 h → PW G M_X11_tenths rm_X11_tenths 0 0 [] n0 K 103 [(0, vr 11 a0 0), (1, vi v1), (2, vl v2), (4, vi v4), (8, vi v8), (9, vl v9), (11, vi v11), (12, vi v12), (13, vl v13)] [] [] 0 0 h)  (v1 v2 v4 v5 v7 v8 v9 v11 v12 v13 v15 : Int) (h : Hh) (hf : w_X11_tenths_97 K B X103 a0 v1 v2 v4 v5 v7 v8 v9 v11 v12 v13 v15 h) : PW G M_X11_tenths rm_X11_tenths 0 0 [] n0 K 97 [(0, vr 11 a0 0), (1, vi v1), (2, vl v2), (4, vi v4), (5, vl v5), (7, vi v7), (8, vi v8), (9, vl v9), (11, vi v11), (12, vi v12), (13, vl v13), (15, vi v15)] [] [] 0 0 h := by
  unfold w_X11_tenths_97 at hf
  refine p_iinc (ls' := [(15, vi (w32 (v15 + 1))), (0, vr 11 a0 0), (1, vi v1), (2, vl v2), (4, vi v4), (5, vl v5), (7, vi v7), (8, vi v8), (9, vl v9), (11, vi v11), (12, vi v12), (13, vl v13)]) dX11_tenths_97 11 rfl (by decide) rfl ?_
  replace hf := vb_e hf
  generalize w32 (v15 + 1) = z5 at hf ⊢
  refine p_goto (tgt := 41) dX11_tenths_100 (by decide) ?_
  refine p_sub (ls' := [(0, vr 11 a0 0), (1, vi v1), (2, vl v2), (4, vi v4), (5, vl v5), (7, vi v7), (8, vi v8), (9, vl v9), (11, vi v11), (12, vi v12), (13, vl v13), (15, vi z5)]) [1, 2, 3, 4, 5, 6, 7, 8, 9, 10, 11, 0] rfl ?_
  exact hB _ _ _ _ _ _ _ _ _ _ _ _ hf
def w_X11_tenths_89 (K : Int → Hh → Prop) (B : Int → Int → Int → Int → Int → Int → Int → Int → Int → Int → Int → Hh → Prop) (X103 : Int → Int → Int → Int → Int → Int → Int → Int → Hh → Prop) (a0 : Int) (v1 v2 v4 v5 v7 v8 v9 v11 v15 v16 : Int) (h : Hh) : Prop := w_X11_tenths_97 K B X103 a0 v1 v2 v4 v5 v7 v8 v9 v11 1 v16 v15 h
set_option maxRecDepth 100000 in
set_option maxHeartbeats 4000000 in
theorem t_X11_tenths_89 {G : Gx} {n0 : Int} {K : Int → Hh → Prop} {B : Int → Int → Int → Int → Int → Int → Int → Int → Int → Int → Int → Hh → Prop} {X103 : Int → Int → Int → Int → Int → Int → Int → Int → Hh → Prop} {a0 : Int} (h0 : 0 ≤ a0) (hB : ∀ (v1 v2 v4 v5 v7 v8 v9 v11 v12 v13 v15 : Int) (h : Hh), B v1 v2 v4 v5 v7 v8 v9 v11 v12 v13 v15 h → PW G M_X11_tenths rm_X11_tenths 0 0 [] n0 K 41 [(0, vr 11 a0 0), (1, vi v1), (2, vl v2), (4, vi v4), (5, vl v5), (7, vi v7), (8, vi v8), (9, vl v9), (11, vi v11), (12, vi v12), (13, vl v13), (15, vi v15)] [] [] 0 0 h) (hX103 : ∀ (v1 v2 v4 v8 v9 v11 v12 v13 : Int) (h : Hh), X103 v1 v2 v4 v8 v9 v11 v12 v13 h → PW G M_X11_tenths rm_X11_tenths 0 0 [] n0 K 103 [(0, vr 11 a0 0), (1, vi v1), (2, vl v2), (4, vi v4), (8, vi v8), (9, vl v9), (11, vi v11), (12, vi v12), (13, vl v13)] [] [] 0 0 h)  (v1 v2 v4 v5 v7 v8 v9 v11 v15 v16 : Int) (h : Hh) (hf : w_X11_tenths_89 K B X103 a0 v1 v2 v4 v5 v7 v8 v9 v11 v15 v16 h) : PW G M_X11_tenths rm_X11_tenths 0 0 [] n0 K 89 [(0, vr 11 a0 0), (1, vi v1), (2, vl v2), (4, vi v4), (5, vl v5), (7, vi v7), (8, vi v8), (9, vl v9), (11, vi v11), (15, vi v15), (16, vi v16)] [] [] 0 0 h := by
  unfold w_X11_tenths_89 at hf
  refine p_iload dX11_tenths_89 10 rfl ?_
  refine p_i2l dX11_tenths_91 ?_
  refine p_lstore (ls' := [(13, vl v16), (0, vr 11 a0 0), (1, vi v1), (2, vl v2), (4, vi v4), (5, vl v5), (7, vi v7), (8, vi v8), (9, vl v9), (11, vi v11), (15, vi v15), (16, vi v16)]) dX11_tenths_92 (by decide) rfl ?_
  refine p_iconst dX11_tenths_94 (by decide) ?_
  refine p_istore (ls' := [(12, vi 1), (13, vl v16), (0, vr 11 a0 0), (1, vi v1), (2, vl v2), (4, vi v4), (5, vl v5), (7, vi v7), (8, vi v8), (9, vl v9), (11, vi v11), (15, vi v15), (16, vi v16)]) dX11_tenths_95 (by decide) rfl ?_
  refine p_sub (ls' := [(0, vr 11 a0 0), (1, vi v1), (2, vl v2), (4, vi v4), (5, vl v5), (7, vi v7), (8, vi v8), (9, vl v9), (11, vi v11), (12, vi 1), (13, vl v16), (15, vi v15)]) [2, 3, 4, 5, 6, 7, 8, 9, 10, 0, 1, 11] rfl ?_
  exact t_X11_tenths_97 h0 hB hX103 _ _ _ _ _ _ _ _ _ _ _ _ hf
def w_X11_tenths_72 (K : Int → Hh → Prop) (B : Int → Int → Int → Int → Int → Int → Int → Int → Int → Int → Int → Hh → Prop) (X103 : Int → Int → Int → Int → Int → Int → Int → Int → Hh → Prop) (a0 : Int) (v1 v2 v4 v5 v7 v8 v9 v11 v12 v13 v15 v16 : Int) (h : Hh) : Prop := if v12 = 0 then (w_X11_tenths_89 K B X103 a0 v1 v2 v4 v5 v7 v8 v9 v11 v15 v16 h) else (if v16 < v13 then (w_X11_tenths_89 K B X103 a0 v1 v2 v4 v5 v7 v8 v9 v11 v15 v16 h) else (w_X11_tenths_97 K B X103 a0 v1 v2 v4 v5 v7 v8 v9 v11 v12 v13 v15 h))
set_option maxRecDepth 100000 in
set_option maxHeartbeats 4000000 in
theorem t_X11_tenths_72 {G : Gx} {n0 : Int} {K : Int → Hh → Prop} {B : Int → Int → Int → Int → Int → Int → Int → Int → Int → Int → Int → Hh → Prop} {X103 : Int → Int → Int → Int → Int → Int → Int → Int → Hh → Prop} {a0 : Int} (h0 : 0 ≤ a0) (hB : ∀ (v1 v2 v4 v5 v7 v8 v9 v11 v12 v13 v15 : Int) (h : Hh), B v1 v2 v4 v5 v7 v8 v9 v11 v12 v13 v15 h → PW G M_X11_tenths rm_X11_tenths 0 0 [] n0 K 41 [(0, vr 11 a0 0), (1, vi v1), (2, vl v2), (4, vi v4), (5, vl v5), (7, vi v7), (8, vi v8), (9, vl v9), (11, vi v11), (12, vi v12), (13, vl v13), (15, vi v15)] [] [] 0 0 h) (hX103 : ∀ (v1 v2 v4 v8 v9 v11 v12 v13 : Int) (h : Hh), X103 v1 v2 v4 v8 v9 v11 v12 v13 h → PW G M_X11_tenths rm_X11_tenths 0 0 [] n0 K 103 [(0, vr 11 a0 0), (1, vi v1), (2, vl v2), (4, vi v4), (8, vi v8), (9, vl v9), (11, vi v11), (12, vi v12), (13, vl v13)] [] [] 0 0 h)  (v1 v2 v4 v5 v7 v8 v9 v11 v12 v13 v15 v16 : Int) (h : Hh) (hf : w_X11_tenths_72 K B X103 a0 v1 v2 v4 v5 v7 v8 v9 v11 v12 v13 v15 v16 h) : PW G M_X11_tenths rm_X11_tenths 0 0 [] n0 K 72 [(0, vr 11 a0 0), (1, vi v1), (2, vl v2), (4, vi v4), (5, vl v5), (7, vi v7), (8, vi v8), (9, vl v9), (11, vi v11), (12, vi v12), (13, vl v13), (15, vi v15), (16, vi v16)] [] [] 0 0 h := by
  unfold w_X11_tenths_72 at hf
  refine p_iload dX11_tenths_72 9 rfl ?_
  refine p_if_eq (tgt := 89) (q := v12 = 0) dX11_tenths_74 (by decide) Iff.rfl (fun hc => ?_) (fun hc => ?_)
  · replace hf := Eq.mp (if_pos hc) hf
    refine p_sub (ls' := [(0, vr 11 a0 0), (1, vi v1), (2, vl v2), (4, vi v4), (5, vl v5), (7, vi v7), (8, vi v8), (9, vl v9), (11, vi v11), (15, vi v15), (16, vi v16)]) [0, 1, 2, 3, 4, 5, 6, 7, 8, 11, 12] rfl ?_
    exact t_X11_tenths_89 h0 hB hX103 _ _ _ _ _ _ _ _ _ _ _ hf
  · replace hf := Eq.mp (if_neg hc) hf
    refine p_iload dX11_tenths_77 12 rfl ?_
    refine p_i2l dX11_tenths_79 ?_
    refine p_lload dX11_tenths_80 10 rfl ?_
    refine p_lcmp (z := (if v16 < v13 then (-1) else if v16 = v13 then 0 else 1)) dX11_tenths_82 rfl ?_
    refine p_if_lt (tgt := 89) (q := v16 < v13) dX11_tenths_83 (by decide) (lc_lt v16 v13) (fun hc => ?_) (fun hc => ?_)
    · replace hf := Eq.mp (if_pos hc) hf
      refine p_sub (ls' := [(0, vr 11 a0 0), (1, vi v1), (2, vl v2), (4, vi v4), (5, vl v5), (7, vi v7), (8, vi v8), (9, vl v9), (11, vi v11), (15, vi v15), (16, vi v16)]) [0, 1, 2, 3, 4, 5, 6, 7, 8, 11, 12] rfl ?_
      exact t_X11_tenths_89 h0 hB hX103 _ _ _ _ _ _ _ _ _ _ _ hf
    · replace hf := Eq.mp (if_neg hc) hf
      refine p_goto (tgt := 97) dX11_tenths_86 (by decide) ?_
      refine p_sub (ls' := [(0, vr 11 a0 0), (1, vi v1), (2, vl v2), (4, vi v4), (5, vl v5), (7, vi v7), (8, vi v8), (9, vl v9), (11, vi v11), (12, vi v12), (13, vl v13), (15, vi v15)]) [0, 1, 2, 3, 4, 5, 6, 7, 8, 9, 10, 11] rfl ?_
      exact t_X11_tenths_97 h0 hB hX103 _ _ _ _ _ _ _ _ _ _ _ _ hf
def w_X11_tenths_41 (K : Int → Hh → Prop) (X103 : Int → Int → Int → Int → Int → Int → Int → Int → Hh → Prop) (a0 : Int) : Nat → Int → Int → Int → Int → Int → Int → Int → Int → Int → Int → Int → Hh → Prop
  | 0, _, _, _, _, _, _, _, _, _, _, _, _ => False
  | n + 1, v1, v2, v4, v5, v7, v8, v9, v11, v12, v13, v15, h => if v15 ≥ v4 then (X103 v1 v2 v4 v8 v9 v11 v12 v13 h) else (w_X11_valueOf a0 v1 0 v15 h (fun r3 h4 => if v7 = 0 then (w_X11_tenths_72 K (w_X11_tenths_41 K X103 a0 n) X103 a0 v1 v2 v4 v5 v7 v8 v9 v11 v12 v13 v15 r3 h4) else (if r3 ≤ v5 then (w_X11_tenths_97 K (w_X11_tenths_41 K X103 a0 n) X103 a0 v1 v2 v4 v5 v7 v8 v9 v11 v12 v13 v15 h4) else (w_X11_tenths_72 K (w_X11_tenths_41 K X103 a0 n) X103 a0 v1 v2 v4 v5 v7 v8 v9 v11 v12 v13 v15 r3 h4))))
set_option maxRecDepth 100000 in
set_option maxHeartbeats 4000000 in
theorem t_X11_tenths_41 {G : Gx} {n0 : Int} {K : Int → Hh → Prop} {X103 : Int → Int → Int → Int → Int → Int → Int → Int → Hh → Prop} {a0 : Int} (h0 : 0 ≤ a0) (hX103 : ∀ (v1 v2 v4 v8 v9 v11 v12 v13 : Int) (h : Hh), X103 v1 v2 v4 v8 v9 v11 v12 v13 h → PW G M_X11_tenths rm_X11_tenths 0 0 [] n0 K 103 [(0, vr 11 a0 0), (1, vi v1), (2, vl v2), (4, vi v4), (8, vi v8), (9, vl v9), (11, vi v11), (12, vi v12), (13, vl v13)] [] [] 0 0 h) : ∀ (n : Nat) (v1 v2 v4 v5 v7 v8 v9 v11 v12 v13 v15 : Int) (h : Hh), w_X11_tenths_41 K X103 a0 n v1 v2 v4 v5 v7 v8 v9 v11 v12 v13 v15 h → PW G M_X11_tenths rm_X11_tenths 0 0 [] n0 K 41 [(0, vr 11 a0 0), (1, vi v1), (2, vl v2), (4, vi v4), (5, vl v5), (7, vi v7), (8, vi v8), (9, vl v9), (11, vi v11), (12, vi v12), (13, vl v13), (15, vi v15)] [] [] 0 0 h := by
  intro n
  induction n with
  | zero =>
    intro v1 v2 v4 v5 v7 v8 v9 v11 v12 v13 v15 h hf
    rw [w_X11_tenths_41] at hf
    exact hf.elim
  | succ n ih =>
    intro v1 v2 v4 v5 v7 v8 v9 v11 v12 v13 v15 h hf
    rw [w_X11_tenths_41] at hf
    refine p_iload dX11_tenths_41 11 rfl ?_
    refine p_iload dX11_tenths_43 3 rfl ?_
    refine p_icmp_ge (tgt := 103) (q := v15 ≥ v4) dX11_tenths_45 (by decide) Iff.rfl (fun hc => ?_) (fun hc => ?_)
    · replace hf := Eq.mp (if_pos hc) hf
      refine p_sub (ls' := [(0, vr 11 a0 0), (1, vi v1), (2, vl v2), (4, vi v4), (8, vi v8), (9, vl v9), (11, vi v11), (12, vi v12), (13, vl v13)]) [0, 1, 2, 3, 6, 7, 8, 9, 10] rfl ?_
      exact hX103 _ _ _ _ _ _ _ _ _ hf
    · replace hf := Eq.mp (if_neg hc) hf
      refine p_aload_n dX11_tenths_48 rfl 0 rfl ?_
      refine p_iload_n dX11_tenths_49 rfl 1 rfl ?_
      refine p_iconst dX11_tenths_50 (by decide) ?_
      refine p_iload dX11_tenths_51 11 rfl ?_
      refine p_callVi dX11_tenths_53 M_X11_valueOf (Or.inl rfl) [vi v1, vi 0, vi v15] (t_X11_valueOf _ _ _ _ _ _ h0 hf) ok_X11_valueOf rfl (c := 11) (by decide) h0 rfl tb_1148 ⟨tb_1150, ts_80⟩ rfl (Nat.le_of_ble_eq_true rfl) ⟨rfl, rfl⟩ ⟨by decide, by decide⟩ ⟨by decide, by decide⟩ (fun r3 h4 hf => ?_)
      refine p_istore (ls' := [(16, vi r3), (0, vr 11 a0 0), (1, vi v1), (2, vl v2), (4, vi v4), (5, vl v5), (7, vi v7), (8, vi v8), (9, vl v9), (11, vi v11), (12, vi v12), (13, vl v13), (15, vi v15)]) dX11_tenths_56 (by decide) rfl ?_
      refine p_iload dX11_tenths_58 6 rfl ?_
      refine p_if_eq (tgt := 72) (q := v7 = 0) dX11_tenths_60 (by decide) Iff.rfl (fun hc => ?_) (fun hc => ?_)
      · replace hf := Eq.mp (if_pos hc) hf
        refine p_sub (ls' := [(0, vr 11 a0 0), (1, vi v1), (2, vl v2), (4, vi v4), (5, vl v5), (7, vi v7), (8, vi v8), (9, vl v9), (11, vi v11), (12, vi v12), (13, vl v13), (15, vi v15), (16, vi r3)]) [1, 2, 3, 4, 5, 6, 7, 8, 9, 10, 11, 12, 0] rfl ?_
        exact t_X11_tenths_72 h0 ih hX103 _ _ _ _ _ _ _ _ _ _ _ _ _ hf
      · replace hf := Eq.mp (if_neg hc) hf
        refine p_iload dX11_tenths_63 0 rfl ?_
        refine p_i2l dX11_tenths_65 ?_
        refine p_lload dX11_tenths_66 5 rfl ?_
        refine p_lcmp (z := (if r3 < v5 then (-1) else if r3 = v5 then 0 else 1)) dX11_tenths_68 rfl ?_
        refine p_if_le (tgt := 97) (q := r3 ≤ v5) dX11_tenths_69 (by decide) (lc_le r3 v5) (fun hc => ?_) (fun hc => ?_)
        · replace hf := Eq.mp (if_pos hc) hf
          refine p_sub (ls' := [(0, vr 11 a0 0), (1, vi v1), (2, vl v2), (4, vi v4), (5, vl v5), (7, vi v7), (8, vi v8), (9, vl v9), (11, vi v11), (12, vi v12), (13, vl v13), (15, vi v15)]) [1, 2, 3, 4, 5, 6, 7, 8, 9, 10, 11, 12] rfl ?_
          exact t_X11_tenths_97 h0 ih hX103 _ _ _ _ _ _ _ _ _ _ _ _ hf
        · replace hf := Eq.mp (if_neg hc) hf
          refine p_sub (ls' := [(0, vr 11 a0 0), (1, vi v1), (2, vl v2), (4, vi v4), (5, vl v5), (7, vi v7), (8, vi v8), (9, vl v9), (11, vi v11), (12, vi v12), (13, vl v13), (15, vi v15), (16, vi r3)]) [1, 2, 3, 4, 5, 6, 7, 8, 9, 10, 11, 12, 0] rfl ?_
          exact t_X11_tenths_72 h0 ih hX103 _ _ _ _ _ _ _ _ _ _ _ _ _ hf
def w_X11_tenths_25 (K : Int → Hh → Prop) (X108 : Int → Int → Int → Hh → Prop) (X138 : Int → Int → Int → Int → Hh → Prop) (X190 : Int → Int → Int → Hh → Prop) (a0 : Int) : Nat → Int → Int → Int → Int → Int → Int → Int → Int → Hh → Prop
  | 0, _, _, _, _, _, _, _, _, _ => False
  | n + 1, v1, v2, v4, v5, v7, v8, v9, v11, h => if v11 ≥ v4 then (X190 v2 v8 v9 h) else (w_X11_tenths_41 K (fun u7 u8 u9 u10 u11 u12 u13 u14 h6 => if u13 ≠ 0 then (if u14 ≤ u8 then (vb (w32 (u10 + 1)) fun z15 => vb (w32 (u12 + 1)) fun z16 => w_X11_tenths_25 K X108 X138 X190 a0 n u7 u8 u9 u14 1 z15 u14 z16 h6) else (X138 u8 u10 u11 u14 h6)) else (X108 u8 u10 u11 h6)) a0 NF v1 v2 v4 v5 v7 v8 v9 v11 0 0 0 h)
set_option maxRecDepth 100000 in
set_option maxHeartbeats 4000000 in
theorem t_X11_tenths_25 {G : Gx} {n0 : Int} {K : Int → Hh → Prop} {X108 : Int → Int → Int → Hh → Prop} {X138 : Int → Int → Int → Int → Hh → Prop} {X190 : Int → Int → Int → Hh → Prop} {a0 : Int} (h0 : 0 ≤ a0) (hX108 : ∀ (v2 v8 v9 : Int) (h : Hh), X108 v2 v8 v9 h → PW G M_X11_tenths rm_X11_tenths 0 0 [] n0 K 108 [(2, vl v2), (8, vi v8), (9, vl v9)] [] [] 0 0 h) (hX138 : ∀ (v2 v8 v9 v13 : Int) (h : Hh), X138 v2 v8 v9 v13 h → PW G M_X11_tenths rm_X11_tenths 0 0 [] n0 K 138 [(2, vl v2), (8, vi v8), (9, vl v9), (13, vl v13)] [] [] 0 0 h) (hX190 : ∀ (v2 v8 v9 : Int) (h : Hh), X190 v2 v8 v9 h → PW G M_X11_tenths rm_X11_tenths 0 0 [] n0 K 190 [(2, vl v2), (8, vi v8), (9, vl v9)] [] [] 0 0 h) : ∀ (n : Nat) (v1 v2 v4 v5 v7 v8 v9 v11 : Int) (h : Hh), w_X11_tenths_25 K X108 X138 X190 a0 n v1 v2 v4 v5 v7 v8 v9 v11 h → PW G M_X11_tenths rm_X11_tenths 0 0 [] n0 K 25 [(0, vr 11 a0 0), (1, vi v1), (2, vl v2), (4, vi v4), (5, vl v5), (7, vi v7), (8, vi v8), (9, vl v9), (11, vi v11)] [] [] 0 0 h := by
  intro n
  induction n with
  | zero =>
    intro v1 v2 v4 v5 v7 v8 v9 v11 h hf
    rw [w_X11_tenths_25] at hf
    exact hf.elim
  | succ n ih =>
    intro v1 v2 v4 v5 v7 v8 v9 v11 h hf
    rw [w_X11_tenths_25] at hf
    refine p_iload dX11_tenths_25 8 rfl ?_
    refine p_iload dX11_tenths_27 3 rfl ?_
    refine p_icmp_ge (tgt := 190) (q := v11 ≥ v4) dX11_tenths_29 (by decide) Iff.rfl (fun hc => ?_) (fun hc => ?_)
    · replace hf := Eq.mp (if_pos hc) hf
      refine p_sub (ls' := [(2, vl v2), (8, vi v8), (9, vl v9)]) [2, 6, 7] rfl ?_
      exact hX190 _ _ _ _ hf
    · replace hf := Eq.mp (if_neg hc) hf
      refine p_iconst dX11_tenths_32 (by decide) ?_
      refine p_istore (ls' := [(12, vi 0), (0, vr 11 a0 0), (1, vi v1), (2, vl v2), (4, vi v4), (5, vl v5), (7, vi v7), (8, vi v8), (9, vl v9), (11, vi v11)]) dX11_tenths_33 (by decide) rfl ?_
      refine p_lconst (z := 0) dX11_tenths_35 rfl ?_
      refine p_lstore (ls' := [(13, vl 0), (12, vi 0), (0, vr 11 a0 0), (1, vi v1), (2, vl v2), (4, vi v4), (5, vl v5), (7, vi v7), (8, vi v8), (9, vl v9), (11, vi v11)]) dX11_tenths_36 (by decide) rfl ?_
      refine p_iconst dX11_tenths_38 (by decide) ?_
      refine p_istore (ls' := [(15, vi 0), (13, vl 0), (12, vi 0), (0, vr 11 a0 0), (1, vi v1), (2, vl v2), (4, vi v4), (5, vl v5), (7, vi v7), (8, vi v8), (9, vl v9), (11, vi v11)]) dX11_tenths_39 (by decide) rfl ?_
      refine p_sub (ls' := [(0, vr 11 a0 0), (1, vi v1), (2, vl v2), (4, vi v4), (5, vl v5), (7, vi v7), (8, vi v8), (9, vl v9), (11, vi v11), (12, vi 0), (13, vl 0), (15, vi 0)]) [3, 4, 5, 6, 7, 8, 9, 10, 11, 2, 1, 0] rfl ?_
      refine t_X11_tenths_41 h0 ?_ NF _ _ _ _ _ _ _ _ _ _ _ _ hf
      · intro u7 u8 u9 u10 u11 u12 u13 u14 h6 hf
        refine p_iload dX11_tenths_103 7 rfl ?_
        refine p_if_ne (tgt := 131) (q := u13 ≠ 0) dX11_tenths_105 (by decide) Iff.rfl (fun hc => ?_) (fun hc => ?_)
        · replace hf := Eq.mp (if_pos hc) hf
          refine p_lload dX11_tenths_131 8 rfl ?_
          refine p_lload_n dX11_tenths_133 rfl 2 rfl ?_
          refine p_lcmp (z := (if u14 < u8 then (-1) else if u14 = u8 then 0 else 1)) dX11_tenths_134 rfl ?_
          refine p_if_le (tgt := 170) (q := u14 ≤ u8) dX11_tenths_135 (by decide) (lc_le u14 u8) (fun hc => ?_) (fun hc => ?_)
          · replace hf := Eq.mp (if_pos hc) hf
            refine p_lload dX11_tenths_170 8 rfl ?_
            refine p_lstore (ls' := [(5, vl u14), (0, vr 11 a0 0), (1, vi u7), (2, vl u8), (4, vi u9), (8, vi u10), (9, vl u11), (11, vi u12), (12, vi u13), (13, vl u14)]) dX11_tenths_172 (by decide) rfl ?_
            refine p_iconst dX11_tenths_174 (by decide) ?_
            refine p_istore (ls' := [(7, vi 1), (5, vl u14), (0, vr 11 a0 0), (1, vi u7), (2, vl u8), (4, vi u9), (8, vi u10), (9, vl u11), (11, vi u12), (12, vi u13), (13, vl u14)]) dX11_tenths_175 (by decide) rfl ?_
            refine p_iinc (ls' := [(8, vi (w32 (u10 + 1))), (7, vi 1), (5, vl u14), (0, vr 11 a0 0), (1, vi u7), (2, vl u8), (4, vi u9), (9, vl u11), (11, vi u12), (12, vi u13), (13, vl u14)]) dX11_tenths_177 6 rfl (by decide) rfl ?_
            replace hf := vb_e hf
            generalize w32 (u10 + 1) = z15 at hf ⊢
            refine p_lload dX11_tenths_180 10 rfl ?_
            refine p_lstore (ls' := [(9, vl u14), (8, vi z15), (7, vi 1), (5, vl u14), (0, vr 11 a0 0), (1, vi u7), (2, vl u8), (4, vi u9), (11, vi u12), (12, vi u13), (13, vl u14)]) dX11_tenths_182 (by decide) rfl ?_
            refine p_iinc (ls' := [(11, vi (w32 (u12 + 1))), (9, vl u14), (8, vi z15), (7, vi 1), (5, vl u14), (0, vr 11 a0 0), (1, vi u7), (2, vl u8), (4, vi u9), (12, vi u13), (13, vl u14)]) dX11_tenths_184 8 rfl (by decide) rfl ?_
            replace hf := vb_e hf
            generalize w32 (u12 + 1) = z16 at hf ⊢
            refine p_goto (tgt := 25) dX11_tenths_187 (by decide) ?_
            refine p_sub (ls' := [(0, vr 11 a0 0), (1, vi u7), (2, vl u8), (4, vi u9), (5, vl u14), (7, vi 1), (8, vi z15), (9, vl u14), (11, vi z16)]) [5, 6, 7, 8, 4, 3, 2, 1, 0] rfl ?_
            exact ih _ _ _ _ _ _ _ _ _ hf
          · replace hf := Eq.mp (if_neg hc) hf
            refine p_sub (ls' := [(2, vl u8), (8, vi u10), (9, vl u11), (13, vl u14)]) [2, 4, 5, 8] rfl ?_
            exact hX138 _ _ _ _ _ hf
        · replace hf := Eq.mp (if_neg hc) hf
          refine p_sub (ls' := [(2, vl u8), (8, vi u10), (9, vl u11)]) [2, 4, 5] rfl ?_
          exact hX108 _ _ _ _ hf
def w_X11_tenths_130 (K : Int → Hh → Prop) (a0 : Int) (s0 : Int) (h : Hh) : Prop := K s0 h
set_option maxRecDepth 100000 in
set_option maxHeartbeats 4000000 in
theorem t_X11_tenths_130 {G : Gx} {n0 : Int} {K : Int → Hh → Prop} {a0 : Int} (h0 : 0 ≤ a0)  (s0 : Int) (h : Hh) (hf : w_X11_tenths_130 K  a0 s0 h) : PW G M_X11_tenths rm_X11_tenths 0 0 [] n0 K 130 [] [vi s0] [] 0 0 h := by
  unfold w_X11_tenths_130 at hf
  exact p_iret dX11_tenths_130 rfl (by decide) (by decide) (fun _ h => absurd h List.not_mem_nil) hf
def w_X11_tenths_129 (K : Int → Hh → Prop) (a0 : Int) (h : Hh) : Prop := w_X11_tenths_130 K  a0 (-1) h
set_option maxRecDepth 100000 in
set_option maxHeartbeats 4000000 in
theorem t_X11_tenths_129 {G : Gx} {n0 : Int} {K : Int → Hh → Prop} {a0 : Int} (h0 : 0 ≤ a0)  (h : Hh) (hf : w_X11_tenths_129 K  a0  h) : PW G M_X11_tenths rm_X11_tenths 0 0 [] n0 K 129 [] [] [] 0 0 h := by
  unfold w_X11_tenths_129 at hf
  refine p_iconst dX11_tenths_129 (by decide) ?_
  exact t_X11_tenths_130 h0  _ _ hf
def w_X11_tenths_169 (K : Int → Hh → Prop) (a0 : Int) (s0 : Int) (h : Hh) : Prop := K s0 h
set_option maxRecDepth 100000 in
set_option maxHeartbeats 4000000 in
theorem t_X11_tenths_169 {G : Gx} {n0 : Int} {K : Int → Hh → Prop} {a0 : Int} (h0 : 0 ≤ a0)  (s0 : Int) (h : Hh) (hf : w_X11_tenths_169 K  a0 s0 h) : PW G M_X11_tenths rm_X11_tenths 0 0 [] n0 K 169 [] [vi s0] [] 0 0 h := by
  unfold w_X11_tenths_169 at hf
  exact p_iret dX11_tenths_169 rfl (by decide) (by decide) (fun _ h => absurd h List.not_mem_nil) hf
def w_X11_tenths_206 (K : Int → Hh → Prop) (a0 : Int) (s0 : Int) (h : Hh) : Prop := K s0 h
set_option maxRecDepth 100000 in
set_option maxHeartbeats 4000000 in
theorem t_X11_tenths_206 {G : Gx} {n0 : Int} {K : Int → Hh → Prop} {a0 : Int} (h0 : 0 ≤ a0)  (s0 : Int) (h : Hh) (hf : w_X11_tenths_206 K  a0 s0 h) : PW G M_X11_tenths rm_X11_tenths 0 0 [] n0 K 206 [] [vi s0] [] 0 0 h := by
  unfold w_X11_tenths_206 at hf
  exact p_iret dX11_tenths_206 rfl (by decide) (by decide) (fun _ h => absurd h List.not_mem_nil) hf
def w_X11_tenths (a0 x1 x2 : Int) (h : Hh) (K : Int → Hh → Prop) : Prop := ((0 : Int) ≤ w32 (5 * x1) ∧ (w32 (5 * x1) : Int) < 30) ∧ (vb (h (a0 + 9) (w32 (5 * x1))) fun z2 => w_X11_tenths_25 K (fun u18 u19 u20 h17 => if u19 = (-1) then (w_X11_tenths_129 K  a0  h17) else (if u18 ≠ u20 then (w_X11_tenths_129 K  a0  h17) else (w_X11_tenths_130 K  a0 (w32 (10 * u19)) h17))) (fun u22 u23 u24 u25 h21 => if u23 ≠ (-1) then ((w64 (u25 - u24) ≠ 0) ∧ (w_X11_tenths_169 K  a0 (w32 ((w32 (10 * u23)) + (w32 (w64 (Int.tdiv (w64 (10 * (w64 (u22 - u24)))) (w64 (u25 - u24))))))) h21)) else (w_X11_tenths_169 K  a0 (-1) h21)) (fun u28 u29 u30 h27 => if u28 ≠ u30 then (w_X11_tenths_206 K  a0 (-1) h27) else (w_X11_tenths_206 K  a0 (w32 (10 * u29)) h27)) a0 NF x1 x2 z2 0 0 (-1) 0 0 h)
set_option maxRecDepth 100000 in
set_option maxHeartbeats 4000000 in
theorem t_X11_tenths {G : Gx} (a0 x1 x2 : Int) (h : Hh) (K : Int → Hh → Prop) (h0 : 0 ≤ a0) (hf : w_X11_tenths a0 x1 x2 h K) : CT G M_X11_tenths rm_X11_tenths 0 0 [] [vr 11 a0 0, vi x1, vl x2] h K := by
  unfold w_X11_tenths at hf
  refine CT.of (ls0 := [(0, vr 11 a0 0), (1, vi x1), (2, vl x2)]) (plainFor_of_name (by decide +kernel)) (by decide +kernel) (Nat.le_of_ble_eq_true rfl) rfl rfl ?_
  refine p_aload_n dX11_tenths_0 rfl 0 rfl ?_
  refine p_lay (c := 11) (tq := 100) (n := 30) dX11_tenths_1 16 9 tb_909 (by decide) (by decide) h0 (by decide) (by decide) (fun _ => rfl) (vr 100 (a0 + 9) 30) rfl ?_
  refine p_iconst dX11_tenths_4 (by decide) ?_
  refine p_iload_n dX11_tenths_5 rfl 1 rfl ?_
  refine p_imul dX11_tenths_6 ?_
  obtain ⟨c1, hf⟩ := hf
  refine p_iald dX11_tenths_7 (nnk h0 (by decide)) c1 ?_
  refine p_istore (ls' := [(4, vi (h (a0 + 9) (w32 (5 * x1)))), (0, vr 11 a0 0), (1, vi x1), (2, vl x2)]) dX11_tenths_8 (by decide) rfl ?_
  replace hf := vb_e hf
  generalize (h (a0 + 9) (w32 (5 * x1))) = z2 at hf ⊢
  refine p_lconst (z := 0) dX11_tenths_10 rfl ?_
  refine p_lstore (ls' := [(5, vl 0), (4, vi z2), (0, vr 11 a0 0), (1, vi x1), (2, vl x2)]) dX11_tenths_11 (by decide) rfl ?_
  refine p_iconst dX11_tenths_13 (by decide) ?_
  refine p_istore (ls' := [(7, vi 0), (5, vl 0), (4, vi z2), (0, vr 11 a0 0), (1, vi x1), (2, vl x2)]) dX11_tenths_14 (by decide) rfl ?_
  refine p_iconst dX11_tenths_16 (by decide) ?_
  refine p_istore (ls' := [(8, vi (-1)), (7, vi 0), (5, vl 0), (4, vi z2), (0, vr 11 a0 0), (1, vi x1), (2, vl x2)]) dX11_tenths_17 (by decide) rfl ?_
  refine p_lconst (z := 0) dX11_tenths_19 rfl ?_
  refine p_lstore (ls' := [(9, vl 0), (8, vi (-1)), (7, vi 0), (5, vl 0), (4, vi z2), (0, vr 11 a0 0), (1, vi x1), (2, vl x2)]) dX11_tenths_20 (by decide) rfl ?_
  refine p_iconst dX11_tenths_22 (by decide) ?_
  refine p_istore (ls' := [(11, vi 0), (9, vl 0), (8, vi (-1)), (7, vi 0), (5, vl 0), (4, vi z2), (0, vr 11 a0 0), (1, vi x1), (2, vl x2)]) dX11_tenths_23 (by decide) rfl ?_
  refine p_sub (ls' := [(0, vr 11 a0 0), (1, vi x1), (2, vl x2), (4, vi z2), (5, vl 0), (7, vi 0), (8, vi (-1)), (9, vl 0), (11, vi 0)]) [6, 7, 8, 5, 4, 3, 2, 1, 0] rfl ?_
  refine t_X11_tenths_25 h0 ?_ ?_ ?_ NF _ _ _ _ _ _ _ _ _ hf
  · intro u18 u19 u20 h17 hf
    refine p_iload dX11_tenths_108 1 rfl ?_
    refine p_iconst dX11_tenths_110 (by decide) ?_
    refine p_icmp_eq (tgt := 129) (q := u19 = (-1)) dX11_tenths_111 (by decide) Iff.rfl (fun hc => ?_) (fun hc => ?_)
    · replace hf := Eq.mp (if_pos hc) hf
      refine p_sub (ls' := []) [] rfl ?_
      exact t_X11_tenths_129 h0   _ hf
    · replace hf := Eq.mp (if_neg hc) hf
      refine p_lload_n dX11_tenths_114 rfl 0 rfl ?_
      refine p_lload dX11_tenths_115 2 rfl ?_
      refine p_lcmp (z := (if u18 < u20 then (-1) else if u18 = u20 then 0 else 1)) dX11_tenths_117 rfl ?_
      refine p_if_ne (tgt := 129) (q := u18 ≠ u20) dX11_tenths_118 (by decide) (lc_ne u18 u20) (fun hc => ?_) (fun hc => ?_)
      · replace hf := Eq.mp (if_pos hc) hf
        refine p_sub (ls' := []) [] rfl ?_
        exact t_X11_tenths_129 h0   _ hf
      · replace hf := Eq.mp (if_neg hc) hf
        refine p_bipush dX11_tenths_121 (by decide) (by decide) ?_
        refine p_iload dX11_tenths_123 1 rfl ?_
        refine p_imul dX11_tenths_125 ?_
        refine p_goto (tgt := 130) dX11_tenths_126 (by decide) ?_
        refine p_sub (ls' := []) [] rfl ?_
        exact t_X11_tenths_130 h0  _ _ hf
  · intro u22 u23 u24 u25 h21 hf
    refine p_iload dX11_tenths_138 1 rfl ?_
    refine p_iconst dX11_tenths_140 (by decide) ?_
    refine p_icmp_ne (tgt := 148) (q := u23 ≠ (-1)) dX11_tenths_141 (by decide) Iff.rfl (fun hc => ?_) (fun hc => ?_)
    · replace hf := Eq.mp (if_pos hc) hf
      refine p_bipush dX11_tenths_148 (by decide) (by decide) ?_
      refine p_iload dX11_tenths_150 1 rfl ?_
      refine p_imul dX11_tenths_152 ?_
      refine p_ldc2 (z := 10) dX11_tenths_153 tb_1124 (by decide) ?_
      refine p_lload_n dX11_tenths_156 rfl 0 rfl ?_
      refine p_lload dX11_tenths_157 2 rfl ?_
      refine p_lsub dX11_tenths_159 ?_
      refine p_lmul dX11_tenths_160 ?_
      refine p_lload dX11_tenths_161 3 rfl ?_
      refine p_lload dX11_tenths_163 2 rfl ?_
      refine p_lsub dX11_tenths_165 ?_
      obtain ⟨c26, hf⟩ := hf
      refine p_ldiv dX11_tenths_166 c26 ?_
      refine p_l2i dX11_tenths_167 ?_
      refine p_iadd dX11_tenths_168 ?_
      refine p_sub (ls' := []) [] rfl ?_
      exact t_X11_tenths_169 h0  _ _ hf
    · replace hf := Eq.mp (if_neg hc) hf
      refine p_iconst dX11_tenths_144 (by decide) ?_
      refine p_goto (tgt := 169) dX11_tenths_145 (by decide) ?_
      refine p_sub (ls' := []) [] rfl ?_
      exact t_X11_tenths_169 h0  _ _ hf
  · intro u28 u29 u30 h27 hf
    refine p_lload_n dX11_tenths_190 rfl 0 rfl ?_
    refine p_lload dX11_tenths_191 2 rfl ?_
    refine p_lcmp (z := (if u28 < u30 then (-1) else if u28 = u30 then 0 else 1)) dX11_tenths_193 rfl ?_
    refine p_if_ne (tgt := 205) (q := u28 ≠ u30) dX11_tenths_194 (by decide) (lc_ne u28 u30) (fun hc => ?_) (fun hc => ?_)
    · replace hf := Eq.mp (if_pos hc) hf
      refine p_iconst dX11_tenths_205 (by decide) ?_
      refine p_sub (ls' := []) [] rfl ?_
      exact t_X11_tenths_206 h0  _ _ hf
    · replace hf := Eq.mp (if_neg hc) hf
      refine p_bipush dX11_tenths_197 (by decide) (by decide) ?_
      refine p_iload dX11_tenths_199 1 rfl ?_
      refine p_imul dX11_tenths_201 ?_
      refine p_goto (tgt := 206) dX11_tenths_202 (by decide) ?_
      refine p_sub (ls' := []) [] rfl ?_
      exact t_X11_tenths_206 h0  _ _ hf
theorem ok_X11_tenths : mOK M_X11_tenths 2 := ⟨tb_1226, tb_9, by decide +kernel⟩
abbrev M_X11_read : MD := (yX11_read, cX11_read, 6, some .int)
abbrev rm_X11_read : Room := { frames := 4, cells := 0, slots := 0, locals := 103 }
def w_X11_read_34 (K : Int → Hh → Prop) (a0 : Int) (h : Hh) : Prop := K (-2147483648) h
set_option maxRecDepth 100000 in
set_option maxHeartbeats 4000000 in
theorem t_X11_read_34 {G : Gx} {n0 : Int} {K : Int → Hh → Prop} {a0 : Int} (h0 : 0 ≤ a0)  (h : Hh) (hf : w_X11_read_34 K  a0  h) : PW G M_X11_read rm_X11_read 0 0 [] n0 K 34 [] [] [] 0 0 h := by
  unfold w_X11_read_34 at hf
  refine p_ldc (z := (-2147483648)) dX11_read_34 tb_1123 (by decide) ?_
  exact p_iret dX11_read_36 rfl (by decide) (by decide) (fun _ h => absurd h List.not_mem_nil) hf
def w_X11_read_177 (K : Int → Hh → Prop) (a0 : Int) (s0 : Int) (h : Hh) : Prop := K s0 h
set_option maxRecDepth 100000 in
set_option maxHeartbeats 4000000 in
theorem t_X11_read_177 {G : Gx} {n0 : Int} {K : Int → Hh → Prop} {a0 : Int} (h0 : 0 ≤ a0)  (s0 : Int) (h : Hh) (hf : w_X11_read_177 K  a0 s0 h) : PW G M_X11_read rm_X11_read 0 0 [] n0 K 177 [] [vi s0] [] 0 0 h := by
  unfold w_X11_read_177 at hf
  exact p_iret dX11_read_177 rfl (by decide) (by decide) (fun _ h => absurd h List.not_mem_nil) hf
def w_X11_read_72 (K : Int → Hh → Prop) (a0 : Int) : Nat → Int → Int → Int → Hh → Prop
  | 0, _, _, _, _ => False
  | n + 1, v3, v4, v5, h => ((0 : Int) ≤ v3 ∧ (v3 : Int) < 6) ∧ (if v5 ≥ w32 ((h (a0 + 5) v3) - 1) then (K v4 h) else (((0 : Int) ≤ w32 ((w32 (4 * (h a0 27))) + v5) ∧ (w32 ((w32 (4 * (h a0 27))) + v5) : Int) < 24) ∧ (((0 : Int) ≤ w32 ((w32 (5 * v3)) + (h (a0 + 12) (w32 ((w32 (4 * (h a0 27))) + v5)))) ∧ (w32 ((w32 (5 * v3)) + (h (a0 + 12) (w32 ((w32 (4 * (h a0 27))) + v5)))) : Int) < 30) ∧ (((0 : Int) ≤ v5 ∧ (v5 : Int) < 4) ∧ (w_X11_valueOf a0 v3 (h (a0 + 12) (w32 ((w32 (4 * (h a0 27))) + v5))) (h (a0 + 31) v5) h (fun r18 h19 => vb (w32 (v4 + (w32 ((h (a0 + 8) (w32 ((w32 (5 * v3)) + (h (a0 + 12) (w32 ((w32 (4 * (h a0 27))) + v5)))))) * r18)))) fun z20 => vb (w32 (v5 + 1)) fun z21 => w_X11_read_72 K  a0 n v3 z20 z21 h19))))))
set_option maxRecDepth 100000 in
set_option maxHeartbeats 4000000 in
theorem t_X11_read_72 {G : Gx} {n0 : Int} {K : Int → Hh → Prop} {a0 : Int} (h0 : 0 ≤ a0) : ∀ (n : Nat) (v3 v4 v5 : Int) (h : Hh), w_X11_read_72 K  a0 n v3 v4 v5 h → PW G M_X11_read rm_X11_read 0 0 [] n0 K 72 [(0, vr 11 a0 0), (3, vi v3), (4, vi v4), (5, vi v5)] [] [] 0 0 h := by
  intro n
  induction n with
  | zero =>
    intro v3 v4 v5 h hf
    rw [w_X11_read_72] at hf
    exact hf.elim
  | succ n ih =>
    intro v3 v4 v5 h hf
    rw [w_X11_read_72] at hf
    refine p_iload dX11_read_72 3 rfl ?_
    refine p_aload_n dX11_read_74 rfl 0 rfl ?_
    refine p_lay (c := 11) (tq := 100) (n := 6) dX11_read_75 12 5 tb_905 (by decide) (by decide) h0 (by decide) (by decide) (fun _ => rfl) (vr 100 (a0 + 5) 6) rfl ?_
    refine p_iload_n dX11_read_78 rfl 1 rfl ?_
    obtain ⟨c14, hf⟩ := hf
    refine p_iald dX11_read_79 (nnk h0 (by decide)) c14 ?_
    refine p_iconst dX11_read_80 (by decide) ?_
    refine p_isub dX11_read_81 ?_
    refine p_icmp_ge (tgt := 146) (q := v5 ≥ w32 ((h (a0 + 5) v3) - 1)) dX11_read_82 (by decide) Iff.rfl (fun hc => ?_) (fun hc => ?_)
    · replace hf := Eq.mp (if_pos hc) hf
      refine p_iload dX11_read_146 2 rfl ?_
      exact p_iret dX11_read_148 rfl (by decide) (by decide) (fun _ h => absurd h List.not_mem_nil) hf
    · replace hf := Eq.mp (if_neg hc) hf
      refine p_iload dX11_read_85 2 rfl ?_
      refine p_aload_n dX11_read_87 rfl 0 rfl ?_
      refine p_lay (c := 11) (tq := 100) (n := 30) dX11_read_88 15 8 tb_908 (by decide) (by decide) h0 (by decide) (by decide) (fun _ => rfl) (vr 100 (a0 + 8) 30) rfl ?_
      refine p_iconst dX11_read_91 (by decide) ?_
      refine p_iload_n dX11_read_92 rfl 1 rfl ?_
      refine p_imul dX11_read_93 ?_
      refine p_aload_n dX11_read_94 rfl 0 rfl ?_
      refine p_lay (c := 11) (tq := 100) (n := 24) dX11_read_95 20 12 tb_913 (by decide) (by decide) h0 (by decide) (by decide) (fun _ => rfl) (vr 100 (a0 + 12) 24) rfl ?_
      refine p_iconst dX11_read_98 (by decide) ?_
      refine p_aload_n dX11_read_99 rfl 0 rfl ?_
      refine p_get (c := 11) (vi (h a0 27)) dX11_read_100 27 tb_920 (by decide) (by decide) (Or.inl rfl) h0 rfl rfl ?_
      refine p_imul dX11_read_103 ?_
      refine p_iload dX11_read_104 3 rfl ?_
      refine p_iadd dX11_read_106 ?_
      obtain ⟨c15, hf⟩ := hf
      refine p_iald dX11_read_107 (nnk h0 (by decide)) c15 ?_
      refine p_iadd dX11_read_108 ?_
      obtain ⟨c16, hf⟩ := hf
      refine p_iald dX11_read_109 (nnk h0 (by decide)) c16 ?_
      refine p_aload_n dX11_read_110 rfl 0 rfl ?_
      refine p_iload_n dX11_read_111 rfl 1 rfl ?_
      refine p_aload_n dX11_read_112 rfl 0 rfl ?_
      refine p_lay (c := 11) (tq := 100) (n := 24) dX11_read_113 20 12 tb_913 (by decide) (by decide) h0 (by decide) (by decide) (fun _ => rfl) (vr 100 (a0 + 12) 24) rfl ?_
      refine p_iconst dX11_read_116 (by decide) ?_
      refine p_aload_n dX11_read_117 rfl 0 rfl ?_
      refine p_get (c := 11) (vi (h a0 27)) dX11_read_118 27 tb_920 (by decide) (by decide) (Or.inl rfl) h0 rfl rfl ?_
      refine p_imul dX11_read_121 ?_
      refine p_iload dX11_read_122 3 rfl ?_
      refine p_iadd dX11_read_124 ?_
      refine p_iald dX11_read_125 (nnk h0 (by decide)) c15 ?_
      refine p_aload_n dX11_read_126 rfl 0 rfl ?_
      refine p_lay (c := 11) (tq := 100) (n := 4) dX11_read_127 44 31 tb_937 (by decide) (by decide) h0 (by decide) (by decide) (fun _ => rfl) (vr 100 (a0 + 31) 4) rfl ?_
      refine p_iload dX11_read_130 3 rfl ?_
      obtain ⟨c17, hf⟩ := hf
      refine p_iald dX11_read_132 (nnk h0 (by decide)) c17 ?_
      refine p_callVi dX11_read_133 M_X11_valueOf (Or.inl rfl) [vi v3, vi (h (a0 + 12) (w32 ((w32 (4 * (h a0 27))) + v5))), vi (h (a0 + 31) v5)] (t_X11_valueOf _ _ _ _ _ _ h0 hf) ok_X11_valueOf rfl (c := 11) (by decide) h0 rfl tb_1148 ⟨tb_1150, ts_80⟩ rfl (Nat.le_of_ble_eq_true rfl) ⟨rfl, rfl⟩ ⟨by decide, by decide⟩ ⟨by decide, by decide⟩ (fun r18 h19 hf => ?_)
      refine p_imul dX11_read_136 ?_
      refine p_iadd dX11_read_137 ?_
      refine p_istore (ls' := [(4, vi (w32 (v4 + (w32 ((h (a0 + 8) (w32 ((w32 (5 * v3)) + (h (a0 + 12) (w32 ((w32 (4 * (h a0 27))) + v5)))))) * r18))))), (0, vr 11 a0 0), (3, vi v3), (5, vi v5)]) dX11_read_138 (by decide) rfl ?_
      replace hf := vb_e hf
      generalize (w32 (v4 + (w32 ((h (a0 + 8) (w32 ((w32 (5 * v3)) + (h (a0 + 12) (w32 ((w32 (4 * (h a0 27))) + v5)))))) * r18)))) = z20 at hf ⊢
      refine p_iinc (ls' := [(5, vi (w32 (v5 + 1))), (4, vi z20), (0, vr 11 a0 0), (3, vi v3)]) dX11_read_140 3 rfl (by decide) rfl ?_
      replace hf := vb_e hf
      generalize w32 (v5 + 1) = z21 at hf ⊢
      refine p_goto (tgt := 72) dX11_read_143 (by decide) ?_
      refine p_sub (ls' := [(0, vr 11 a0 0), (3, vi v3), (4, vi z20), (5, vi z21)]) [2, 3, 1, 0] rfl ?_
      exact ih _ _ _ _ hf
def w_X11_read (a0 x1 x2 : Int) (h : Hh) (K : Int → Hh → Prop) : Prop := if h a0 27 = (-1) then (w_X11_read_34 K  a0  h) else (w_X11_in x1 0 (h a0 29) h (fun r1 h2 => if r1 = 0 then (w_X11_read_34 K  a0  h2) else (w_X11_in x2 0 2 h2 (fun r3 h4 => if r3 ≠ 0 then (((0 : Int) ≤ h4 a0 27 ∧ (h4 a0 27 : Int) < 6) ∧ (vb (h4 (a0 + 11) (h4 a0 27)) fun z6 => w_X11_takes a0 (a0 + 19) 4 0 h4 (fun _ h7 => if x2 ≠ 2 then (w_X11_goes a0 (h7 a0 27) x1 h7 (fun r8 h9 => if x2 ≠ 0 then (w_X11_tenths a0 z6 r8 h9 (fun r10 h11 => w_X11_read_177 K  a0 r10 h11)) else (w_X11_read_177 K  a0 (w32 r8) h9))) else (((0 : Int) ≤ z6 ∧ (z6 : Int) < 6) ∧ (vb (h7 (a0 + 6) z6) fun z13 => w_X11_read_72 K  a0 NF z6 z13 0 h7))))) else (w_X11_read_34 K  a0  h4)))))
set_option maxRecDepth 100000 in
set_option maxHeartbeats 4000000 in
theorem t_X11_read {G : Gx} (a0 x1 x2 : Int) (h : Hh) (K : Int → Hh → Prop) (h0 : 0 ≤ a0) (hf : w_X11_read a0 x1 x2 h K) : CT G M_X11_read rm_X11_read 0 0 [] [vr 11 a0 0, vi x1, vi x2] h K := by
  unfold w_X11_read at hf
  refine CT.of (ls0 := [(0, vr 11 a0 0), (1, vi x1), (2, vi x2)]) (plainFor_of_name (by decide +kernel)) (by decide +kernel) (Nat.le_of_ble_eq_true rfl) rfl rfl ?_
  refine p_aload_n dX11_read_0 rfl 0 rfl ?_
  refine p_get (c := 11) (vi (h a0 27)) dX11_read_1 27 tb_920 (by decide) (by decide) (Or.inl rfl) h0 rfl rfl ?_
  refine p_iconst dX11_read_4 (by decide) ?_
  refine p_icmp_eq (tgt := 34) (q := h a0 27 = (-1)) dX11_read_5 (by decide) Iff.rfl (fun hc => ?_) (fun hc => ?_)
  · replace hf := Eq.mp (if_pos hc) hf
    refine p_sub (ls' := []) [] rfl ?_
    exact t_X11_read_34 h0   _ hf
  · replace hf := Eq.mp (if_neg hc) hf
    refine p_iload_n dX11_read_8 rfl 1 rfl ?_
    refine p_i2l dX11_read_9 ?_
    refine p_lconst (z := 0) dX11_read_10 rfl ?_
    refine p_aload_n dX11_read_11 rfl 0 rfl ?_
    refine p_get (c := 11) (vi (h a0 29)) dX11_read_12 29 tb_922 (by decide) (by decide) (Or.inl rfl) h0 rfl rfl ?_
    refine p_i2l dX11_read_15 ?_
    refine p_callSi dX11_read_16 M_X11_in (Or.inr rfl) [vl x1, vl 0, vl (h a0 29)] (t_X11_in _ _ _ _ _ hf) ok_X11_in rfl tb_1079 tb_1080 rfl (Nat.le_of_ble_eq_true rfl) ⟨rfl, rfl⟩ ⟨by decide, by decide⟩ ⟨by decide, by decide⟩ (fun r1 h2 hf => ?_)
    refine p_if_eq (tgt := 34) (q := r1 = 0) dX11_read_19 (by decide) Iff.rfl (fun hc => ?_) (fun hc => ?_)
    · replace hf := Eq.mp (if_pos hc) hf
      refine p_sub (ls' := []) [] rfl ?_
      exact t_X11_read_34 h0   _ hf
    · replace hf := Eq.mp (if_neg hc) hf
      refine p_iload_n dX11_read_22 rfl 2 rfl ?_
      refine p_i2l dX11_read_23 ?_
      refine p_lconst (z := 0) dX11_read_24 rfl ?_
      refine p_ldc2 (z := 2) dX11_read_25 tb_1135 (by decide) ?_
      refine p_callSi dX11_read_28 M_X11_in (Or.inr rfl) [vl x2, vl 0, vl 2] (t_X11_in _ _ _ _ _ hf) ok_X11_in rfl tb_1079 tb_1080 rfl (Nat.le_of_ble_eq_true rfl) ⟨rfl, rfl⟩ ⟨by decide, by decide⟩ ⟨by decide, by decide⟩ (fun r3 h4 hf => ?_)
      refine p_if_ne (tgt := 37) (q := r3 ≠ 0) dX11_read_31 (by decide) Iff.rfl (fun hc => ?_) (fun hc => ?_)
      · replace hf := Eq.mp (if_pos hc) hf
        refine p_aload_n dX11_read_37 rfl 0 rfl ?_
        refine p_lay (c := 11) (tq := 100) (n := 6) dX11_read_38 19 11 tb_912 (by decide) (by decide) h0 (by decide) (by decide) (fun _ => rfl) (vr 100 (a0 + 11) 6) rfl ?_
        refine p_aload_n dX11_read_41 rfl 0 rfl ?_
        refine p_get (c := 11) (vi (h4 a0 27)) dX11_read_42 27 tb_920 (by decide) (by decide) (Or.inl rfl) h0 rfl rfl ?_
        obtain ⟨c5, hf⟩ := hf
        refine p_iald dX11_read_45 (nnk h0 (by decide)) c5 ?_
        refine p_istore_n (ls' := [(3, vi (h4 (a0 + 11) (h4 a0 27))), (0, vr 11 a0 0), (1, vi x1), (2, vi x2)]) dX11_read_46 rfl (by decide) rfl ?_
        replace hf := vb_e hf
        generalize (h4 (a0 + 11) (h4 a0 27)) = z6 at hf ⊢
        refine p_aload_n dX11_read_47 rfl 1 rfl ?_
        refine p_aload_n dX11_read_48 rfl 1 rfl ?_
        refine p_lay (c := 11) (tq := 100) (n := 4) dX11_read_49 28 19 tb_921 (by decide) (by decide) h0 (by decide) (by decide) (fun _ => rfl) (vr 100 (a0 + 19) 4) rfl ?_
        refine p_iconst dX11_read_52 (by decide) ?_
        refine p_callVv dX11_read_53 M_X11_takes rfl [vr 100 (a0 + 19) 4, vi 0] (t_X11_takes _ _ _ _ _ _ h0 hf) ok_X11_takes rfl (c := 11) (by decide) h0 rfl tb_1199 ⟨tb_1201, ts_84⟩ rfl (Nat.le_of_ble_eq_true rfl) ⟨rfl, rfl⟩ ⟨by decide, by decide⟩ ⟨by decide, by decide⟩ (fun _ h7 hf => ?_)
        refine p_iload_n dX11_read_56 rfl 3 rfl ?_
        refine p_iconst dX11_read_57 (by decide) ?_
        refine p_icmp_ne (tgt := 149) (q := x2 ≠ 2) dX11_read_58 (by decide) Iff.rfl (fun hc => ?_) (fun hc => ?_)
        · replace hf := Eq.mp (if_pos hc) hf
          refine p_aload_n dX11_read_149 rfl 1 rfl ?_
          refine p_aload_n dX11_read_150 rfl 1 rfl ?_
          refine p_get (c := 11) (vi (h7 a0 27)) dX11_read_151 27 tb_920 (by decide) (by decide) (Or.inl rfl) h0 rfl rfl ?_
          refine p_iload_n dX11_read_154 rfl 2 rfl ?_
          refine p_callVl dX11_read_155 M_X11_goes rfl [vi (h7 a0 27), vi x1] (t_X11_goes _ _ _ _ _ h0 hf) ok_X11_goes rfl (c := 11) (by decide) h0 rfl tb_1203 ⟨tb_1205, ts_85⟩ rfl (Nat.le_of_ble_eq_true rfl) ⟨rfl, rfl⟩ ⟨by decide, by decide⟩ ⟨by decide, by decide⟩ (fun r8 h9 hf => ?_)
          refine p_lstore (ls' := [(4, vl r8), (3, vi z6), (0, vr 11 a0 0), (1, vi x1), (2, vi x2)]) dX11_read_158 (by decide) rfl ?_
          refine p_iload_n dX11_read_160 rfl 4 rfl ?_
          refine p_if_ne (tgt := 170) (q := x2 ≠ 0) dX11_read_161 (by decide) Iff.rfl (fun hc => ?_) (fun hc => ?_)
          · replace hf := Eq.mp (if_pos hc) hf
            refine p_aload_n dX11_read_170 rfl 2 rfl ?_
            refine p_iload_n dX11_read_171 rfl 1 rfl ?_
            refine p_lload dX11_read_172 0 rfl ?_
            refine p_callVi dX11_read_174 M_X11_tenths (Or.inl rfl) [vi z6, vl r8] (t_X11_tenths _ _ _ _ _ h0 hf) ok_X11_tenths rfl (c := 11) (by decide) h0 rfl tb_1223 ⟨tb_1225, ts_90⟩ rfl (Nat.le_of_ble_eq_true rfl) ⟨rfl, rfl⟩ ⟨by decide, by decide⟩ ⟨by decide, by decide⟩ (fun r10 h11 hf => ?_)
            refine p_sub (ls' := []) [] rfl ?_
            exact t_X11_read_177 h0  _ _ hf
          · replace hf := Eq.mp (if_neg hc) hf
            refine p_lload dX11_read_164 0 rfl ?_
            refine p_l2i dX11_read_166 ?_
            refine p_goto (tgt := 177) dX11_read_167 (by decide) ?_
            refine p_sub (ls' := []) [] rfl ?_
            exact t_X11_read_177 h0  _ _ hf
        · replace hf := Eq.mp (if_neg hc) hf
          refine p_aload_n dX11_read_61 rfl 1 rfl ?_
          refine p_lay (c := 11) (tq := 100) (n := 6) dX11_read_62 13 6 tb_906 (by decide) (by decide) h0 (by decide) (by decide) (fun _ => rfl) (vr 100 (a0 + 6) 6) rfl ?_
          refine p_iload_n dX11_read_65 rfl 0 rfl ?_
          obtain ⟨c12, hf⟩ := hf
          refine p_iald dX11_read_66 (nnk h0 (by decide)) c12 ?_
          refine p_istore (ls' := [(4, vi (h7 (a0 + 6) z6)), (3, vi z6), (0, vr 11 a0 0), (1, vi x1), (2, vi x2)]) dX11_read_67 (by decide) rfl ?_
          replace hf := vb_e hf
          generalize (h7 (a0 + 6) z6) = z13 at hf ⊢
          refine p_iconst dX11_read_69 (by decide) ?_
          refine p_istore (ls' := [(5, vi 0), (4, vi z13), (3, vi z6), (0, vr 11 a0 0), (1, vi x1), (2, vi x2)]) dX11_read_70 (by decide) rfl ?_
          refine p_sub (ls' := [(0, vr 11 a0 0), (3, vi z6), (4, vi z13), (5, vi 0)]) [3, 2, 1, 0] rfl ?_
          refine t_X11_read_72 h0  NF _ _ _ _ hf
      · replace hf := Eq.mp (if_neg hc) hf
        refine p_sub (ls' := []) [] rfl ?_
        exact t_X11_read_34 h0   _ hf
theorem ok_X11_read : mOK M_X11_read 2 := ⟨tb_1198, tb_9, by decide +kernel⟩
