abbrev M_X11_lead : MD := (yX11_lead, cX11_lead, 3, some .int)
abbrev rm_X11_lead : Room := { frames := 4, cells := 0, slots := 0, locals := 103 }
def w_X11_lead_40 (K : Int → Hh → Prop) (a0 : Int) (h : Hh) : Prop := K (-2147483648) h
set_option maxRecDepth 100000 in
set_option maxHeartbeats 4000000 in
theorem t_X11_lead_40 {G : Gx} {n0 : Int} {K : Int → Hh → Prop} {a0 : Int} (h0 : 0 ≤ a0)  (h : Hh) (hf : w_X11_lead_40 K  a0  h) : PW G M_X11_lead rm_X11_lead 0 0 [] n0 K 40 [] [] [] 0 0 h := by
  unfold w_X11_lead_40 at hf
  refine p_ldc (z := (-2147483648)) dX11_lead_40 tb_1123 (by decide) ?_
  exact p_iret dX11_lead_42 rfl (by decide) (by decide) (fun _ h => absurd h List.not_mem_nil) hf
def w_X11_lead_112 (K : Int → Hh → Prop) (a0 : Int) (s0 : Int) (h : Hh) : Prop := K (w32 s0) h
set_option maxRecDepth 100000 in
set_option maxHeartbeats 4000000 in
theorem t_X11_lead_112 {G : Gx} {n0 : Int} {K : Int → Hh → Prop} {a0 : Int} (h0 : 0 ≤ a0)  (s0 : Int) (h : Hh) (hf : w_X11_lead_112 K  a0 s0 h) : PW G M_X11_lead rm_X11_lead 0 0 [] n0 K 112 [] [vl s0] [] 0 0 h := by
  unfold w_X11_lead_112 at hf
  refine p_l2i dX11_lead_112 ?_
  exact p_iret dX11_lead_113 rfl (by decide) (by decide) (fun _ h => absurd h List.not_mem_nil) hf
def w_X11_lead (a0 x1 x2 : Int) (h : Hh) (K : Int → Hh → Prop) : Prop := if h a0 27 = (-1) then (w_X11_lead_40 K  a0  h) else (w_X11_pagesOf a0 (h a0 27) h (fun r1 h2 => w_X11_in x1 0 (w32 (r1 - 1)) h2 (fun r3 h4 => if r3 = 0 then (w_X11_lead_40 K  a0  h4) else (w_X11_in x2 0 3 h4 (fun r5 h6 => if r5 ≠ 0 then (w_X11_takes a0 (a0 + 19) 4 0 h6 (fun _ h7 => w_X11_goes a0 (h7 a0 27) (h7 a0 29) h7 (fun r8 h9 => if x2 ≠ 0 then (if x2 ≠ 1 then (if x2 ≠ 2 then (((0 : Int) ≤ x1 ∧ (x1 : Int) < 3) ∧ (w_X11_lead_112 K  a0 (h9 (a0 + 35) x1) h9)) else (((0 : Int) ≤ x1 ∧ (x1 : Int) < 3) ∧ (w_X11_lead_112 K  a0 (h9 (a0 + 34) x1) h9))) else (((0 : Int) ≤ x1 ∧ (x1 : Int) < 3) ∧ (w_X11_lead_112 K  a0 (h9 (a0 + 33) x1) h9))) else (((0 : Int) ≤ x1 ∧ (x1 : Int) < 3) ∧ (w_X11_lead_112 K  a0 (h9 (a0 + 32) x1) h9))))) else (w_X11_lead_40 K  a0  h6))))))
set_option maxRecDepth 100000 in
set_option maxHeartbeats 4000000 in
theorem t_X11_lead {G : Gx} (a0 x1 x2 : Int) (h : Hh) (K : Int → Hh → Prop) (h0 : 0 ≤ a0) (hf : w_X11_lead a0 x1 x2 h K) : CT G M_X11_lead rm_X11_lead 0 0 [] [vr 11 a0 0, vi x1, vi x2] h K := by
  unfold w_X11_lead at hf
  refine CT.of (ls0 := [(0, vr 11 a0 0), (1, vi x1), (2, vi x2)]) (plainFor_of_name (by decide +kernel)) (by decide +kernel) (Nat.le_of_ble_eq_true rfl) rfl rfl ?_
  refine p_aload_n dX11_lead_0 rfl 0 rfl ?_
  refine p_get (c := 11) (vi (h a0 27)) dX11_lead_1 27 tb_920 (by decide) (by decide) (Or.inl rfl) h0 rfl rfl ?_
  refine p_iconst dX11_lead_4 (by decide) ?_
  refine p_icmp_eq (tgt := 40) (q := h a0 27 = (-1)) dX11_lead_5 (by decide) Iff.rfl (fun hc => ?_) (fun hc => ?_)
  · replace hf := Eq.mp (if_pos hc) hf
    refine p_sub (ls' := []) [] rfl ?_
    exact t_X11_lead_40 h0   _ hf
  · replace hf := Eq.mp (if_neg hc) hf
    refine p_iload_n dX11_lead_8 rfl 1 rfl ?_
    refine p_i2l dX11_lead_9 ?_
    refine p_lconst (z := 0) dX11_lead_10 rfl ?_
    refine p_aload_n dX11_lead_11 rfl 0 rfl ?_
    refine p_aload_n dX11_lead_12 rfl 0 rfl ?_
    refine p_get (c := 11) (vi (h a0 27)) dX11_lead_13 27 tb_920 (by decide) (by decide) (Or.inl rfl) h0 rfl rfl ?_
    refine p_callVi dX11_lead_16 M_X11_pagesOf (Or.inl rfl) [vi (h a0 27)] (t_X11_pagesOf _ _ _ _ h0 hf) ok_X11_pagesOf rfl (c := 11) (by decide) h0 rfl tb_1211 ⟨tb_1213, ts_87⟩ rfl (Nat.le_of_ble_eq_true rfl) ⟨rfl, rfl⟩ ⟨by decide, by decide⟩ ⟨by decide, by decide⟩ (fun r1 h2 hf => ?_)
    refine p_iconst dX11_lead_19 (by decide) ?_
    refine p_isub dX11_lead_20 ?_
    refine p_i2l dX11_lead_21 ?_
    refine p_callSi dX11_lead_22 M_X11_in (Or.inr rfl) [vl x1, vl 0, vl (w32 (r1 - 1))] (t_X11_in _ _ _ _ _ hf) ok_X11_in rfl tb_1079 tb_1080 rfl (Nat.le_of_ble_eq_true rfl) ⟨rfl, rfl⟩ ⟨by decide, by decide⟩ ⟨by decide, by decide⟩ (fun r3 h4 hf => ?_)
    refine p_if_eq (tgt := 40) (q := r3 = 0) dX11_lead_25 (by decide) Iff.rfl (fun hc => ?_) (fun hc => ?_)
    · replace hf := Eq.mp (if_pos hc) hf
      refine p_sub (ls' := []) [] rfl ?_
      exact t_X11_lead_40 h0   _ hf
    · replace hf := Eq.mp (if_neg hc) hf
      refine p_iload_n dX11_lead_28 rfl 2 rfl ?_
      refine p_i2l dX11_lead_29 ?_
      refine p_lconst (z := 0) dX11_lead_30 rfl ?_
      refine p_ldc2 (z := 3) dX11_lead_31 tb_1231 (by decide) ?_
      refine p_callSi dX11_lead_34 M_X11_in (Or.inr rfl) [vl x2, vl 0, vl 3] (t_X11_in _ _ _ _ _ hf) ok_X11_in rfl tb_1079 tb_1080 rfl (Nat.le_of_ble_eq_true rfl) ⟨rfl, rfl⟩ ⟨by decide, by decide⟩ ⟨by decide, by decide⟩ (fun r5 h6 hf => ?_)
      refine p_if_ne (tgt := 43) (q := r5 ≠ 0) dX11_lead_37 (by decide) Iff.rfl (fun hc => ?_) (fun hc => ?_)
      · replace hf := Eq.mp (if_pos hc) hf
        refine p_aload_n dX11_lead_43 rfl 0 rfl ?_
        refine p_aload_n dX11_lead_44 rfl 0 rfl ?_
        refine p_lay (c := 11) (tq := 100) (n := 4) dX11_lead_45 28 19 tb_921 (by decide) (by decide) h0 (by decide) (by decide) (fun _ => rfl) (vr 100 (a0 + 19) 4) rfl ?_
        refine p_iconst dX11_lead_48 (by decide) ?_
        refine p_callVv dX11_lead_49 M_X11_takes rfl [vr 100 (a0 + 19) 4, vi 0] (t_X11_takes _ _ _ _ _ _ h0 hf) ok_X11_takes rfl (c := 11) (by decide) h0 rfl tb_1199 ⟨tb_1201, ts_84⟩ rfl (Nat.le_of_ble_eq_true rfl) ⟨rfl, rfl⟩ ⟨by decide, by decide⟩ ⟨by decide, by decide⟩ (fun _ h7 hf => ?_)
        refine p_aload_n dX11_lead_52 rfl 0 rfl ?_
        refine p_aload_n dX11_lead_53 rfl 0 rfl ?_
        refine p_get (c := 11) (vi (h7 a0 27)) dX11_lead_54 27 tb_920 (by decide) (by decide) (Or.inl rfl) h0 rfl rfl ?_
        refine p_aload_n dX11_lead_57 rfl 0 rfl ?_
        refine p_get (c := 11) (vi (h7 a0 29)) dX11_lead_58 29 tb_922 (by decide) (by decide) (Or.inl rfl) h0 rfl rfl ?_
        refine p_callVl dX11_lead_61 M_X11_goes rfl [vi (h7 a0 27), vi (h7 a0 29)] (t_X11_goes _ _ _ _ _ h0 hf) ok_X11_goes rfl (c := 11) (by decide) h0 rfl tb_1203 ⟨tb_1205, ts_85⟩ rfl (Nat.le_of_ble_eq_true rfl) ⟨rfl, rfl⟩ ⟨by decide, by decide⟩ ⟨by decide, by decide⟩ (fun r8 h9 hf => ?_)
        refine p_pop2 dX11_lead_64 ?_
        refine p_iload_n dX11_lead_65 rfl 2 rfl ?_
        refine p_if_ne (tgt := 78) (q := x2 ≠ 0) dX11_lead_66 (by decide) Iff.rfl (fun hc => ?_) (fun hc => ?_)
        · replace hf := Eq.mp (if_pos hc) hf
          refine p_iload_n dX11_lead_78 rfl 2 rfl ?_
          refine p_iconst dX11_lead_79 (by decide) ?_
          refine p_icmp_ne (tgt := 92) (q := x2 ≠ 1) dX11_lead_80 (by decide) Iff.rfl (fun hc => ?_) (fun hc => ?_)
          · replace hf := Eq.mp (if_pos hc) hf
            refine p_iload_n dX11_lead_92 rfl 2 rfl ?_
            refine p_iconst dX11_lead_93 (by decide) ?_
            refine p_icmp_ne (tgt := 106) (q := x2 ≠ 2) dX11_lead_94 (by decide) Iff.rfl (fun hc => ?_) (fun hc => ?_)
            · replace hf := Eq.mp (if_pos hc) hf
              refine p_aload_n dX11_lead_106 rfl 0 rfl ?_
              refine p_lay (c := 11) (tq := 101) (n := 3) dX11_lead_107 48 35 tb_941 (by decide) (by decide) h0 (by decide) (by decide) (fun _ => rfl) (vr 101 (a0 + 35) 3) rfl ?_
              refine p_iload_n dX11_lead_110 rfl 1 rfl ?_
              obtain ⟨c10, hf⟩ := hf
              refine p_lald dX11_lead_111 (nnk h0 (by decide)) c10 ?_
              refine p_sub (ls' := []) [] rfl ?_
              exact t_X11_lead_112 h0  _ _ hf
            · replace hf := Eq.mp (if_neg hc) hf
              refine p_aload_n dX11_lead_97 rfl 0 rfl ?_
              refine p_lay (c := 11) (tq := 101) (n := 3) dX11_lead_98 47 34 tb_940 (by decide) (by decide) h0 (by decide) (by decide) (fun _ => rfl) (vr 101 (a0 + 34) 3) rfl ?_
              refine p_iload_n dX11_lead_101 rfl 1 rfl ?_
              obtain ⟨c11, hf⟩ := hf
              refine p_lald dX11_lead_102 (nnk h0 (by decide)) c11 ?_
              refine p_goto (tgt := 112) dX11_lead_103 (by decide) ?_
              refine p_sub (ls' := []) [] rfl ?_
              exact t_X11_lead_112 h0  _ _ hf
          · replace hf := Eq.mp (if_neg hc) hf
            refine p_aload_n dX11_lead_83 rfl 0 rfl ?_
            refine p_lay (c := 11) (tq := 101) (n := 3) dX11_lead_84 46 33 tb_939 (by decide) (by decide) h0 (by decide) (by decide) (fun _ => rfl) (vr 101 (a0 + 33) 3) rfl ?_
            refine p_iload_n dX11_lead_87 rfl 1 rfl ?_
            obtain ⟨c12, hf⟩ := hf
            refine p_lald dX11_lead_88 (nnk h0 (by decide)) c12 ?_
            refine p_goto (tgt := 112) dX11_lead_89 (by decide) ?_
            refine p_sub (ls' := []) [] rfl ?_
            exact t_X11_lead_112 h0  _ _ hf
        · replace hf := Eq.mp (if_neg hc) hf
          refine p_aload_n dX11_lead_69 rfl 0 rfl ?_
          refine p_lay (c := 11) (tq := 101) (n := 3) dX11_lead_70 45 32 tb_938 (by decide) (by decide) h0 (by decide) (by decide) (fun _ => rfl) (vr 101 (a0 + 32) 3) rfl ?_
          refine p_iload_n dX11_lead_73 rfl 1 rfl ?_
          obtain ⟨c13, hf⟩ := hf
          refine p_lald dX11_lead_74 (nnk h0 (by decide)) c13 ?_
          refine p_goto (tgt := 112) dX11_lead_75 (by decide) ?_
          refine p_sub (ls' := []) [] rfl ?_
          exact t_X11_lead_112 h0  _ _ hf
      · replace hf := Eq.mp (if_neg hc) hf
        refine p_sub (ls' := []) [] rfl ?_
        exact t_X11_lead_40 h0   _ hf
theorem ok_X11_lead : mOK M_X11_lead 2 := ⟨tb_1230, tb_9, by decide +kernel⟩
abbrev M_X11_signed : MD := (yX11_signed, cX11_signed, 4, some .long)
abbrev rm_X11_signed : Room := { frames := 1, cells := 0, slots := 0, locals := 23 }
def w_X11_signed (a0 x1 x2 x3 : Int) (h : Hh) (K : Int → Hh → Prop) : Prop := ((0 : Int) ≤ w32 ((w32 (5 * x1)) + x2) ∧ (w32 ((w32 (5 * x1)) + x2) : Int) < 30) ∧ (w_X11_valueOf a0 x1 x2 x3 h (fun r2 h3 => K (w32 ((h (a0 + 8) (w32 ((w32 (5 * x1)) + x2))) * r2)) h3))
set_option maxRecDepth 100000 in
set_option maxHeartbeats 4000000 in
theorem t_X11_signed {G : Gx} (a0 x1 x2 x3 : Int) (h : Hh) (K : Int → Hh → Prop) (h0 : 0 ≤ a0) (hf : w_X11_signed a0 x1 x2 x3 h K) : CT G M_X11_signed rm_X11_signed 0 0 [] [vr 11 a0 0, vi x1, vi x2, vi x3] h K := by
  unfold w_X11_signed at hf
  refine CT.of (ls0 := [(0, vr 11 a0 0), (1, vi x1), (2, vi x2), (3, vi x3)]) (plainFor_of_name (by decide +kernel)) (by decide +kernel) (Nat.le_of_ble_eq_true rfl) rfl rfl ?_
  refine p_aload_n dX11_signed_0 rfl 0 rfl ?_
  refine p_lay (c := 11) (tq := 100) (n := 30) dX11_signed_1 15 8 tb_908 (by decide) (by decide) h0 (by decide) (by decide) (fun _ => rfl) (vr 100 (a0 + 8) 30) rfl ?_
  refine p_iconst dX11_signed_4 (by decide) ?_
  refine p_iload_n dX11_signed_5 rfl 1 rfl ?_
  refine p_imul dX11_signed_6 ?_
  refine p_iload_n dX11_signed_7 rfl 2 rfl ?_
  refine p_iadd dX11_signed_8 ?_
  obtain ⟨c1, hf⟩ := hf
  refine p_iald dX11_signed_9 (nnk h0 (by decide)) c1 ?_
  refine p_aload_n dX11_signed_10 rfl 0 rfl ?_
  refine p_iload_n dX11_signed_11 rfl 1 rfl ?_
  refine p_iload_n dX11_signed_12 rfl 2 rfl ?_
  refine p_iload_n dX11_signed_13 rfl 3 rfl ?_
  refine p_callVi dX11_signed_14 M_X11_valueOf (Or.inl rfl) [vi x1, vi x2, vi x3] (t_X11_valueOf _ _ _ _ _ _ h0 hf) ok_X11_valueOf rfl (c := 11) (by decide) h0 rfl tb_1148 ⟨tb_1150, ts_80⟩ rfl (Nat.le_of_ble_eq_true rfl) ⟨rfl, rfl⟩ ⟨by decide, by decide⟩ ⟨by decide, by decide⟩ (fun r2 h3 hf => ?_)
  refine p_imul dX11_signed_17 ?_
  refine p_i2l dX11_signed_18 ?_
  exact p_lret dX11_signed_19 rfl (by decide) (by decide) (fun _ h => absurd h List.not_mem_nil) hf
theorem ok_X11_signed : mOK M_X11_signed 3 := ⟨tb_1243, tb_9, by decide +kernel⟩
abbrev M_X11_spans : MD := (yX11_spans, cX11_spans, 11, none)
abbrev rm_X11_spans : Room := { frames := 3, cells := 0, slots := 0, locals := 74 }
def w_X11_spans_39 (K : Int → Hh → Prop) (a0 : Int) : Nat → Int → Int → Int → Int → Hh → Prop
  | 0, _, _, _, _, _ => False
  | n + 1, v1, v2, v3, v4, h => w_X11_pagesOf a0 v1 h (fun r8 h9 => if v4 ≥ r8 then (K 0 h9) else (((0 : Int) ≤ w32 ((w32 (3 * v1)) + v4) ∧ (w32 ((w32 (3 * v1)) + v4) : Int) < 18) ∧ (((0 : Int) ≤ w32 (v4 + 1) ∧ (w32 (v4 + 1) : Int) < 4) ∧ (w_X11_signed a0 v3 (h9 (a0 + 36) (w32 (v4 + 1))) (h9 (a0 + 31) (w32 (v4 + 1))) h9 (fun r12 h13 => vb (w64 ((h9 (a0 + 15) (w32 ((w32 (3 * v1)) + v4))) * r12)) fun z14 => vb (w64 ((h13 (a0 + 14) (w32 ((w32 (3 * v1)) + v4))) * (h13 a0 50))) fun z15 => vb (w64 ((h13 (a0 + 14) (w32 ((w32 (3 * v1)) + v4))) * (h13 a0 51))) fun z16 => w_X11_mid a0 v1 v4 h13 (fun r17 h18 => ((0 : Int) ≤ v1 ∧ (v1 : Int) < 6) ∧ (w_X11_nearest (w64 ((w64 (z14 - z15)) * r17)) (h18 (a0 + 13) v1) h18 (fun r20 h21 => w_X11_sumAt a0 v1 v4 (w64 ((w64 (z15 + r20)) - v2)) h21 (fun r22 h23 => hb (up h23 a0 50 r22) fun h24 => w_X11_mid a0 v1 v4 h24 (fun r25 h26 => w_X11_nearest (w64 ((w64 (z14 - z16)) * r25)) (h26 (a0 + 13) v1) h26 (fun r27 h28 => w_X11_sumAt a0 v1 v4 (w64 ((w64 (z16 + r27)) + v2)) h28 (fun r29 h30 => hb (up h30 a0 51 r29) fun h31 => vb (w32 (v4 + 1)) fun z32 => w_X11_spans_39 K  a0 n v1 v2 v3 z32 h31))))))))))))
set_option maxRecDepth 100000 in
set_option maxHeartbeats 4000000 in
theorem t_X11_spans_39 {G : Gx} {n0 : Int} {K : Int → Hh → Prop} {a0 : Int} (h0 : 0 ≤ a0) : ∀ (n : Nat) (v1 v2 v3 v4 : Int) (h : Hh), w_X11_spans_39 K  a0 n v1 v2 v3 v4 h → PW G M_X11_spans rm_X11_spans 0 0 [] n0 K 39 [(0, vr 11 a0 0), (1, vi v1), (2, vi v2), (3, vi v3), (4, vi v4)] [] [] 0 0 h := by
  intro n
  induction n with
  | zero =>
    intro v1 v2 v3 v4 h hf
    rw [w_X11_spans_39] at hf
    exact hf.elim
  | succ n ih =>
    intro v1 v2 v3 v4 h hf
    rw [w_X11_spans_39] at hf
    refine p_iload dX11_spans_39 4 rfl ?_
    refine p_aload_n dX11_spans_41 rfl 0 rfl ?_
    refine p_iload_n dX11_spans_42 rfl 1 rfl ?_
    refine p_callVi dX11_spans_43 M_X11_pagesOf (Or.inl rfl) [vi v1] (t_X11_pagesOf _ _ _ _ h0 hf) ok_X11_pagesOf rfl (c := 11) (by decide) h0 rfl tb_1211 ⟨tb_1213, ts_87⟩ rfl (Nat.le_of_ble_eq_true rfl) ⟨rfl, rfl⟩ ⟨by decide, by decide⟩ ⟨by decide, by decide⟩ (fun r8 h9 hf => ?_)
    refine p_icmp_ge (tgt := 213) (q := v4 ≥ r8) dX11_spans_46 (by decide) Iff.rfl (fun hc => ?_) (fun hc => ?_)
    · replace hf := Eq.mp (if_pos hc) hf
      exact p_vret dX11_spans_213 rfl (by decide) (by decide) (fun _ h => absurd h List.not_mem_nil) hf
    · replace hf := Eq.mp (if_neg hc) hf
      refine p_aload_n dX11_spans_49 rfl 0 rfl ?_
      refine p_lay (c := 11) (tq := 100) (n := 18) dX11_spans_50 23 15 tb_916 (by decide) (by decide) h0 (by decide) (by decide) (fun _ => rfl) (vr 100 (a0 + 15) 18) rfl ?_
      refine p_iconst dX11_spans_53 (by decide) ?_
      refine p_iload_n dX11_spans_54 rfl 1 rfl ?_
      refine p_imul dX11_spans_55 ?_
      refine p_iload dX11_spans_56 4 rfl ?_
      refine p_iadd dX11_spans_58 ?_
      obtain ⟨c10, hf⟩ := hf
      refine p_iald dX11_spans_59 (nnk h0 (by decide)) c10 ?_
      refine p_i2l dX11_spans_60 ?_
      refine p_aload_n dX11_spans_61 rfl 0 rfl ?_
      refine p_iload_n dX11_spans_62 rfl 3 rfl ?_
      refine p_aload_n dX11_spans_63 rfl 0 rfl ?_
      refine p_lay (c := 11) (tq := 100) (n := 4) dX11_spans_64 49 36 tb_942 (by decide) (by decide) h0 (by decide) (by decide) (fun _ => rfl) (vr 100 (a0 + 36) 4) rfl ?_
      refine p_iload dX11_spans_67 4 rfl ?_
      refine p_iconst dX11_spans_69 (by decide) ?_
      refine p_iadd dX11_spans_70 ?_
      obtain ⟨c11, hf⟩ := hf
      refine p_iald dX11_spans_71 (nnk h0 (by decide)) c11 ?_
      refine p_aload_n dX11_spans_72 rfl 0 rfl ?_
      refine p_lay (c := 11) (tq := 100) (n := 4) dX11_spans_73 44 31 tb_937 (by decide) (by decide) h0 (by decide) (by decide) (fun _ => rfl) (vr 100 (a0 + 31) 4) rfl ?_
      refine p_iload dX11_spans_76 4 rfl ?_
      refine p_iconst dX11_spans_78 (by decide) ?_
      refine p_iadd dX11_spans_79 ?_
      refine p_iald dX11_spans_80 (nnk h0 (by decide)) c11 ?_
      refine p_callVl dX11_spans_81 M_X11_signed rfl [vi v3, vi (h9 (a0 + 36) (w32 (v4 + 1))), vi (h9 (a0 + 31) (w32 (v4 + 1)))] (t_X11_signed _ _ _ _ _ _ h0 hf) ok_X11_signed rfl (c := 11) (by decide) h0 rfl tb_1240 ⟨tb_1242, ts_92⟩ rfl (Nat.le_of_ble_eq_true rfl) ⟨rfl, rfl⟩ ⟨by decide, by decide⟩ ⟨by decide, by decide⟩ (fun r12 h13 hf => ?_)
      refine p_lmul dX11_spans_84 ?_
      refine p_lstore (ls' := [(5, vl (w64 ((h9 (a0 + 15) (w32 ((w32 (3 * v1)) + v4))) * r12))), (0, vr 11 a0 0), (1, vi v1), (2, vi v2), (3, vi v3), (4, vi v4)]) dX11_spans_85 (by decide) rfl ?_
      replace hf := vb_e hf
      generalize (w64 ((h9 (a0 + 15) (w32 ((w32 (3 * v1)) + v4))) * r12)) = z14 at hf ⊢
      refine p_aload_n dX11_spans_87 rfl 1 rfl ?_
      refine p_lay (c := 11) (tq := 100) (n := 18) dX11_spans_88 22 14 tb_915 (by decide) (by decide) h0 (by decide) (by decide) (fun _ => rfl) (vr 100 (a0 + 14) 18) rfl ?_
      refine p_iconst dX11_spans_91 (by decide) ?_
      refine p_iload_n dX11_spans_92 rfl 2 rfl ?_
      refine p_imul dX11_spans_93 ?_
      refine p_iload dX11_spans_94 5 rfl ?_
      refine p_iadd dX11_spans_96 ?_
      refine p_iald dX11_spans_97 (nnk h0 (by decide)) c10 ?_
      refine p_i2l dX11_spans_98 ?_
      refine p_aload_n dX11_spans_99 rfl 1 rfl ?_
      refine p_get (c := 11) (vl (h13 a0 50)) dX11_spans_100 50 tb_943 (by decide) (by decide) (Or.inl rfl) h0 rfl rfl ?_
      refine p_lmul dX11_spans_103 ?_
      refine p_lstore (ls' := [(7, vl (w64 ((h13 (a0 + 14) (w32 ((w32 (3 * v1)) + v4))) * (h13 a0 50)))), (5, vl z14), (0, vr 11 a0 0), (1, vi v1), (2, vi v2), (3, vi v3), (4, vi v4)]) dX11_spans_104 (by decide) rfl ?_
      replace hf := vb_e hf
      generalize (w64 ((h13 (a0 + 14) (w32 ((w32 (3 * v1)) + v4))) * (h13 a0 50))) = z15 at hf ⊢
      refine p_aload_n dX11_spans_106 rfl 2 rfl ?_
      refine p_lay (c := 11) (tq := 100) (n := 18) dX11_spans_107 22 14 tb_915 (by decide) (by decide) h0 (by decide) (by decide) (fun _ => rfl) (vr 100 (a0 + 14) 18) rfl ?_
      refine p_iconst dX11_spans_110 (by decide) ?_
      refine p_iload_n dX11_spans_111 rfl 3 rfl ?_
      refine p_imul dX11_spans_112 ?_
      refine p_iload dX11_spans_113 6 rfl ?_
      refine p_iadd dX11_spans_115 ?_
      refine p_iald dX11_spans_116 (nnk h0 (by decide)) c10 ?_
      refine p_i2l dX11_spans_117 ?_
      refine p_aload_n dX11_spans_118 rfl 2 rfl ?_
      refine p_get (c := 11) (vl (h13 a0 51)) dX11_spans_119 51 tb_944 (by decide) (by decide) (Or.inl rfl) h0 rfl rfl ?_
      refine p_lmul dX11_spans_122 ?_
      refine p_lstore (ls' := [(9, vl (w64 ((h13 (a0 + 14) (w32 ((w32 (3 * v1)) + v4))) * (h13 a0 51)))), (7, vl z15), (5, vl z14), (0, vr 11 a0 0), (1, vi v1), (2, vi v2), (3, vi v3), (4, vi v4)]) dX11_spans_123 (by decide) rfl ?_
      replace hf := vb_e hf
      generalize (w64 ((h13 (a0 + 14) (w32 ((w32 (3 * v1)) + v4))) * (h13 a0 51))) = z16 at hf ⊢
      refine p_aload_n dX11_spans_125 rfl 3 rfl ?_
      refine p_aload_n dX11_spans_126 rfl 3 rfl ?_
      refine p_iload_n dX11_spans_127 rfl 4 rfl ?_
      refine p_iload dX11_spans_128 7 rfl ?_
      refine p_lload dX11_spans_130 1 rfl ?_
      refine p_lload dX11_spans_132 2 rfl ?_
      refine p_lload dX11_spans_134 1 rfl ?_
      refine p_lsub dX11_spans_136 ?_
      refine p_aload_n dX11_spans_137 rfl 3 rfl ?_
      refine p_iload_n dX11_spans_138 rfl 4 rfl ?_
      refine p_iload dX11_spans_139 7 rfl ?_
      refine p_callVi dX11_spans_141 M_X11_mid (Or.inl rfl) [vi v1, vi v4] (t_X11_mid _ _ _ _ _ h0 hf) ok_X11_mid rfl (c := 11) (by decide) h0 rfl tb_1215 ⟨tb_1217, ts_88⟩ rfl (Nat.le_of_ble_eq_true rfl) ⟨rfl, rfl⟩ ⟨by decide, by decide⟩ ⟨by decide, by decide⟩ (fun r17 h18 hf => ?_)
      refine p_i2l dX11_spans_144 ?_
      refine p_lmul dX11_spans_145 ?_
      refine p_aload_n dX11_spans_146 rfl 3 rfl ?_
      refine p_lay (c := 11) (tq := 100) (n := 6) dX11_spans_147 21 13 tb_914 (by decide) (by decide) h0 (by decide) (by decide) (fun _ => rfl) (vr 100 (a0 + 13) 6) rfl ?_
      refine p_iload_n dX11_spans_150 rfl 4 rfl ?_
      obtain ⟨c19, hf⟩ := hf
      refine p_iald dX11_spans_151 (nnk h0 (by decide)) c19 ?_
      refine p_i2l dX11_spans_152 ?_
      refine p_callSl dX11_spans_153 M_X11_nearest rfl [vl (w64 ((w64 (z14 - z15)) * r17)), vl (h18 (a0 + 13) v1)] (t_X11_nearest _ _ _ _ hf) ok_X11_nearest rfl tb_1138 tb_1139 rfl (Nat.le_of_ble_eq_true rfl) ⟨rfl, rfl⟩ ⟨by decide, by decide⟩ ⟨by decide, by decide⟩ (fun r20 h21 hf => ?_)
      refine p_ladd dX11_spans_156 ?_
      refine p_iload_n dX11_spans_157 rfl 5 rfl ?_
      refine p_i2l dX11_spans_158 ?_
      refine p_lsub dX11_spans_159 ?_
      refine p_callVl dX11_spans_160 M_X11_sumAt rfl [vi v1, vi v4, vl (w64 ((w64 (z15 + r20)) - v2))] (t_X11_sumAt _ _ _ _ _ _ h0 hf) ok_X11_sumAt rfl (c := 11) (by decide) h0 rfl tb_1219 ⟨tb_1221, ts_89⟩ rfl (Nat.le_of_ble_eq_true rfl) ⟨rfl, rfl⟩ ⟨by decide, by decide⟩ ⟨by decide, by decide⟩ (fun r22 h23 hf => ?_)
      refine p_putl (c := 11) dX11_spans_163 50 tb_943 (by decide) (by decide) (Or.inl rfl) h0 rfl rfl (fun _ => by decide) (up h23 a0 50 r22) rfl ?_
      replace hf := hb_e hf
      generalize up h23 a0 50 r22 = h24 at hf ⊢
      refine p_aload_n dX11_spans_166 rfl 3 rfl ?_
      refine p_aload_n dX11_spans_167 rfl 3 rfl ?_
      refine p_iload_n dX11_spans_168 rfl 4 rfl ?_
      refine p_iload dX11_spans_169 7 rfl ?_
      refine p_lload dX11_spans_171 0 rfl ?_
      refine p_lload dX11_spans_173 2 rfl ?_
      refine p_lload dX11_spans_175 0 rfl ?_
      refine p_lsub dX11_spans_177 ?_
      refine p_aload_n dX11_spans_178 rfl 3 rfl ?_
      refine p_iload_n dX11_spans_179 rfl 4 rfl ?_
      refine p_iload dX11_spans_180 7 rfl ?_
      refine p_callVi dX11_spans_182 M_X11_mid (Or.inl rfl) [vi v1, vi v4] (t_X11_mid _ _ _ _ _ h0 hf) ok_X11_mid rfl (c := 11) (by decide) h0 rfl tb_1215 ⟨tb_1217, ts_88⟩ rfl (Nat.le_of_ble_eq_true rfl) ⟨rfl, rfl⟩ ⟨by decide, by decide⟩ ⟨by decide, by decide⟩ (fun r25 h26 hf => ?_)
      refine p_i2l dX11_spans_185 ?_
      refine p_lmul dX11_spans_186 ?_
      refine p_aload_n dX11_spans_187 rfl 3 rfl ?_
      refine p_lay (c := 11) (tq := 100) (n := 6) dX11_spans_188 21 13 tb_914 (by decide) (by decide) h0 (by decide) (by decide) (fun _ => rfl) (vr 100 (a0 + 13) 6) rfl ?_
      refine p_iload_n dX11_spans_191 rfl 4 rfl ?_
      refine p_iald dX11_spans_192 (nnk h0 (by decide)) c19 ?_
      refine p_i2l dX11_spans_193 ?_
      refine p_callSl dX11_spans_194 M_X11_nearest rfl [vl (w64 ((w64 (z14 - z16)) * r25)), vl (h26 (a0 + 13) v1)] (t_X11_nearest _ _ _ _ hf) ok_X11_nearest rfl tb_1138 tb_1139 rfl (Nat.le_of_ble_eq_true rfl) ⟨rfl, rfl⟩ ⟨by decide, by decide⟩ ⟨by decide, by decide⟩ (fun r27 h28 hf => ?_)
      refine p_ladd dX11_spans_197 ?_
      refine p_iload_n dX11_spans_198 rfl 5 rfl ?_
      refine p_i2l dX11_spans_199 ?_
      refine p_ladd dX11_spans_200 ?_
      refine p_callVl dX11_spans_201 M_X11_sumAt rfl [vi v1, vi v4, vl (w64 ((w64 (z16 + r27)) + v2))] (t_X11_sumAt _ _ _ _ _ _ h0 hf) ok_X11_sumAt rfl (c := 11) (by decide) h0 rfl tb_1219 ⟨tb_1221, ts_89⟩ rfl (Nat.le_of_ble_eq_true rfl) ⟨rfl, rfl⟩ ⟨by decide, by decide⟩ ⟨by decide, by decide⟩ (fun r29 h30 hf => ?_)
      refine p_putl (c := 11) dX11_spans_204 51 tb_944 (by decide) (by decide) (Or.inl rfl) h0 rfl rfl (fun _ => by decide) (up h30 a0 51 r29) rfl ?_
      replace hf := hb_e hf
      generalize up h30 a0 51 r29 = h31 at hf ⊢
      refine p_iinc (ls' := [(4, vi (w32 (v4 + 1))), (9, vl z16), (7, vl z15), (5, vl z14), (0, vr 11 a0 0), (1, vi v1), (2, vi v2), (3, vi v3)]) dX11_spans_207 7 rfl (by decide) rfl ?_
      replace hf := vb_e hf
      generalize w32 (v4 + 1) = z32 at hf ⊢
      refine p_goto (tgt := 39) dX11_spans_210 (by decide) ?_
      refine p_sub (ls' := [(0, vr 11 a0 0), (1, vi v1), (2, vi v2), (3, vi v3), (4, vi z32)]) [4, 5, 6, 7, 0] rfl ?_
      exact ih _ _ _ _ _ hf
def w_X11_spans (a0 x1 x2 : Int) (h : Hh) (K : Int → Hh → Prop) : Prop := ((0 : Int) ≤ x1 ∧ (x1 : Int) < 6) ∧ (vb (h (a0 + 11) x1) fun z2 => ((0 : Int) ≤ 0 ∧ (0 : Int) < 4) ∧ (w_X11_signed a0 z2 (h (a0 + 36) 0) (h (a0 + 31) 0) h (fun r4 h5 => hb (up h5 a0 50 r4) fun h6 => hb (up h6 a0 51 (h6 a0 50)) fun h7 => w_X11_spans_39 K  a0 NF x1 x2 z2 0 h7)))
set_option maxRecDepth 100000 in
set_option maxHeartbeats 4000000 in
theorem t_X11_spans {G : Gx} (a0 x1 x2 : Int) (h : Hh) (K : Int → Hh → Prop) (h0 : 0 ≤ a0) (hf : w_X11_spans a0 x1 x2 h K) : CT G M_X11_spans rm_X11_spans 0 0 [] [vr 11 a0 0, vi x1, vi x2] h K := by
  unfold w_X11_spans at hf
  refine CT.of (ls0 := [(0, vr 11 a0 0), (1, vi x1), (2, vi x2)]) (plainFor_of_name (by decide +kernel)) (by decide +kernel) (Nat.le_of_ble_eq_true rfl) rfl rfl ?_
  refine p_aload_n dX11_spans_0 rfl 0 rfl ?_
  refine p_lay (c := 11) (tq := 100) (n := 6) dX11_spans_1 19 11 tb_912 (by decide) (by decide) h0 (by decide) (by decide) (fun _ => rfl) (vr 100 (a0 + 11) 6) rfl ?_
  refine p_iload_n dX11_spans_4 rfl 1 rfl ?_
  obtain ⟨c1, hf⟩ := hf
  refine p_iald dX11_spans_5 (nnk h0 (by decide)) c1 ?_
  refine p_istore_n (ls' := [(3, vi (h (a0 + 11) x1)), (0, vr 11 a0 0), (1, vi x1), (2, vi x2)]) dX11_spans_6 rfl (by decide) rfl ?_
  replace hf := vb_e hf
  generalize (h (a0 + 11) x1) = z2 at hf ⊢
  refine p_aload_n dX11_spans_7 rfl 1 rfl ?_
  refine p_aload_n dX11_spans_8 rfl 1 rfl ?_
  refine p_iload_n dX11_spans_9 rfl 0 rfl ?_
  refine p_aload_n dX11_spans_10 rfl 1 rfl ?_
  refine p_lay (c := 11) (tq := 100) (n := 4) dX11_spans_11 49 36 tb_942 (by decide) (by decide) h0 (by decide) (by decide) (fun _ => rfl) (vr 100 (a0 + 36) 4) rfl ?_
  refine p_iconst dX11_spans_14 (by decide) ?_
  obtain ⟨c3, hf⟩ := hf
  refine p_iald dX11_spans_15 (nnk h0 (by decide)) c3 ?_
  refine p_aload_n dX11_spans_16 rfl 1 rfl ?_
  refine p_lay (c := 11) (tq := 100) (n := 4) dX11_spans_17 44 31 tb_937 (by decide) (by decide) h0 (by decide) (by decide) (fun _ => rfl) (vr 100 (a0 + 31) 4) rfl ?_
  refine p_iconst dX11_spans_20 (by decide) ?_
  refine p_iald dX11_spans_21 (nnk h0 (by decide)) c3 ?_
  refine p_callVl dX11_spans_22 M_X11_signed rfl [vi z2, vi (h (a0 + 36) 0), vi (h (a0 + 31) 0)] (t_X11_signed _ _ _ _ _ _ h0 hf) ok_X11_signed rfl (c := 11) (by decide) h0 rfl tb_1240 ⟨tb_1242, ts_92⟩ rfl (Nat.le_of_ble_eq_true rfl) ⟨rfl, rfl⟩ ⟨by decide, by decide⟩ ⟨by decide, by decide⟩ (fun r4 h5 hf => ?_)
  refine p_putl (c := 11) dX11_spans_25 50 tb_943 (by decide) (by decide) (Or.inl rfl) h0 rfl rfl (fun _ => by decide) (up h5 a0 50 r4) rfl ?_
  replace hf := hb_e hf
  generalize up h5 a0 50 r4 = h6 at hf ⊢
  refine p_aload_n dX11_spans_28 rfl 1 rfl ?_
  refine p_aload_n dX11_spans_29 rfl 1 rfl ?_
  refine p_get (c := 11) (vl (h6 a0 50)) dX11_spans_30 50 tb_943 (by decide) (by decide) (Or.inl rfl) h0 rfl rfl ?_
  refine p_putl (c := 11) dX11_spans_33 51 tb_944 (by decide) (by decide) (Or.inl rfl) h0 rfl rfl (fun _ => by decide) (up h6 a0 51 (h6 a0 50)) rfl ?_
  replace hf := hb_e hf
  generalize up h6 a0 51 (h6 a0 50) = h7 at hf ⊢
  refine p_iconst dX11_spans_36 (by decide) ?_
  refine p_istore (ls' := [(4, vi 0), (3, vi z2), (0, vr 11 a0 0), (1, vi x1), (2, vi x2)]) dX11_spans_37 (by decide) rfl ?_
  refine p_sub (ls' := [(0, vr 11 a0 0), (1, vi x1), (2, vi x2), (3, vi z2), (4, vi 0)]) [2, 3, 4, 1, 0] rfl ?_
  refine t_X11_spans_39 h0  NF _ _ _ _ _ hf
theorem ok_X11_spans : mOK M_X11_spans 2 := ⟨tb_1239, tb_9, by decide +kernel⟩
abbrev M_X11_span : MD := (yX11_span, cX11_span, 4, some .int)
abbrev rm_X11_span : Room := { frames := 4, cells := 0, slots := 0, locals := 104 }
def w_X11_span_20 (K : Int → Hh → Prop) (a0 : Int) (h : Hh) : Prop := K (-2147483648) h
set_option maxRecDepth 100000 in
set_option maxHeartbeats 4000000 in
theorem t_X11_span_20 {G : Gx} {n0 : Int} {K : Int → Hh → Prop} {a0 : Int} (h0 : 0 ≤ a0)  (h : Hh) (hf : w_X11_span_20 K  a0  h) : PW G M_X11_span rm_X11_span 0 0 [] n0 K 20 [] [] [] 0 0 h := by
  unfold w_X11_span_20 at hf
  refine p_ldc (z := (-2147483648)) dX11_span_20 tb_1123 (by decide) ?_
  exact p_iret dX11_span_22 rfl (by decide) (by decide) (fun _ h => absurd h List.not_mem_nil) hf
def w_X11_span_34 (K : Int → Hh → Prop) (X64 : Int → Int → Hh → Prop) (a0 : Int) : Nat → Int → Int → Int → Hh → Prop
  | 0, _, _, _, _ => False
  | n + 1, v1, v2, v3, h => if v3 ≥ 4 then (X64 v1 v2 h) else (((0 : Int) ≤ w32 ((w32 (4 * (h a0 27))) + v3) ∧ (w32 ((w32 (4 * (h a0 27))) + v3) : Int) < 24) ∧ (((0 : Int) ≤ v3 ∧ (v3 : Int) < 4) ∧ (hb (up h (a0 + 36) v3 (h (a0 + 12) (w32 ((w32 (4 * (h a0 27))) + v3)))) fun h6 => vb (w32 (v3 + 1)) fun z7 => w_X11_span_34 K X64 a0 n v1 v2 z7 h6)))
set_option maxRecDepth 100000 in
set_option maxHeartbeats 4000000 in
theorem t_X11_span_34 {G : Gx} {n0 : Int} {K : Int → Hh → Prop} {X64 : Int → Int → Hh → Prop} {a0 : Int} (h0 : 0 ≤ a0) (hX64 : ∀ (v1 v2 : Int) (h : Hh), X64 v1 v2 h → PW G M_X11_span rm_X11_span 0 0 [] n0 K 64 [(0, vr 11 a0 0), (1, vi v1), (2, vi v2)] [] [] 0 0 h) : ∀ (n : Nat) (v1 v2 v3 : Int) (h : Hh), w_X11_span_34 K X64 a0 n v1 v2 v3 h → PW G M_X11_span rm_X11_span 0 0 [] n0 K 34 [(0, vr 11 a0 0), (1, vi v1), (2, vi v2), (3, vi v3)] [] [] 0 0 h := by
  intro n
  induction n with
  | zero =>
    intro v1 v2 v3 h hf
    rw [w_X11_span_34] at hf
    exact hf.elim
  | succ n ih =>
    intro v1 v2 v3 h hf
    rw [w_X11_span_34] at hf
    refine p_iload_n dX11_span_34 rfl 3 rfl ?_
    refine p_iconst dX11_span_35 (by decide) ?_
    refine p_icmp_ge (tgt := 64) (q := v3 ≥ 4) dX11_span_36 (by decide) Iff.rfl (fun hc => ?_) (fun hc => ?_)
    · replace hf := Eq.mp (if_pos hc) hf
      refine p_sub (ls' := [(0, vr 11 a0 0), (1, vi v1), (2, vi v2)]) [0, 1, 2] rfl ?_
      exact hX64 _ _ _ hf
    · replace hf := Eq.mp (if_neg hc) hf
      refine p_aload_n dX11_span_39 rfl 0 rfl ?_
      refine p_lay (c := 11) (tq := 100) (n := 4) dX11_span_40 49 36 tb_942 (by decide) (by decide) h0 (by decide) (by decide) (fun _ => rfl) (vr 100 (a0 + 36) 4) rfl ?_
      refine p_iload_n dX11_span_43 rfl 3 rfl ?_
      refine p_aload_n dX11_span_44 rfl 0 rfl ?_
      refine p_lay (c := 11) (tq := 100) (n := 24) dX11_span_45 20 12 tb_913 (by decide) (by decide) h0 (by decide) (by decide) (fun _ => rfl) (vr 100 (a0 + 12) 24) rfl ?_
      refine p_iconst dX11_span_48 (by decide) ?_
      refine p_aload_n dX11_span_49 rfl 0 rfl ?_
      refine p_get (c := 11) (vi (h a0 27)) dX11_span_50 27 tb_920 (by decide) (by decide) (Or.inl rfl) h0 rfl rfl ?_
      refine p_imul dX11_span_53 ?_
      refine p_iload_n dX11_span_54 rfl 3 rfl ?_
      refine p_iadd dX11_span_55 ?_
      obtain ⟨c4, hf⟩ := hf
      refine p_iald dX11_span_56 (nnk h0 (by decide)) c4 ?_
      obtain ⟨c5, hf⟩ := hf
      refine p_iast dX11_span_57 (nnk h0 (by decide)) c5 ?_
      replace hf := hb_e hf
      generalize up h (a0 + 36) v3 (h (a0 + 12) (w32 ((w32 (4 * (h a0 27))) + v3))) = h6 at hf ⊢
      refine p_iinc (ls' := [(3, vi (w32 (v3 + 1))), (0, vr 11 a0 0), (1, vi v1), (2, vi v2)]) dX11_span_58 3 rfl (by decide) rfl ?_
      replace hf := vb_e hf
      generalize w32 (v3 + 1) = z7 at hf ⊢
      refine p_goto (tgt := 34) dX11_span_61 (by decide) ?_
      refine p_sub (ls' := [(0, vr 11 a0 0), (1, vi v1), (2, vi v2), (3, vi z7)]) [1, 2, 3, 0] rfl ?_
      exact ih _ _ _ _ hf
def w_X11_span_88 (K : Int → Hh → Prop) (a0 : Int) (s0 : Int) (h : Hh) : Prop := K (w32 s0) h
set_option maxRecDepth 100000 in
set_option maxHeartbeats 4000000 in
theorem t_X11_span_88 {G : Gx} {n0 : Int} {K : Int → Hh → Prop} {a0 : Int} (h0 : 0 ≤ a0)  (s0 : Int) (h : Hh) (hf : w_X11_span_88 K  a0 s0 h) : PW G M_X11_span rm_X11_span 0 0 [] n0 K 88 [] [vl s0] [] 0 0 h := by
  unfold w_X11_span_88 at hf
  refine p_l2i dX11_span_88 ?_
  exact p_iret dX11_span_89 rfl (by decide) (by decide) (fun _ h => absurd h List.not_mem_nil) hf
def w_X11_span (a0 x1 x2 : Int) (h : Hh) (K : Int → Hh → Prop) : Prop := if h a0 27 = (-1) then (w_X11_span_20 K  a0  h) else (w_X11_in x1 0 50 h (fun r1 h2 => if r1 ≠ 0 then (w_X11_takes a0 (a0 + 19) 4 0 h2 (fun _ h3 => w_X11_span_34 K (fun u9 u10 h8 => w_X11_spans a0 (h8 a0 27) u9 h8 (fun _ h11 => if u10 = 0 then (w_X11_span_88 K  a0 (h11 a0 50) h11) else (w_X11_span_88 K  a0 (h11 a0 51) h11))) a0 NF x1 x2 0 h3)) else (w_X11_span_20 K  a0  h2)))
set_option maxRecDepth 100000 in
set_option maxHeartbeats 4000000 in
theorem t_X11_span {G : Gx} (a0 x1 x2 : Int) (h : Hh) (K : Int → Hh → Prop) (h0 : 0 ≤ a0) (hf : w_X11_span a0 x1 x2 h K) : CT G M_X11_span rm_X11_span 0 0 [] [vr 11 a0 0, vi x1, vi x2] h K := by
  unfold w_X11_span at hf
  refine CT.of (ls0 := [(0, vr 11 a0 0), (1, vi x1), (2, vi x2)]) (plainFor_of_name (by decide +kernel)) (by decide +kernel) (Nat.le_of_ble_eq_true rfl) rfl rfl ?_
  refine p_aload_n dX11_span_0 rfl 0 rfl ?_
  refine p_get (c := 11) (vi (h a0 27)) dX11_span_1 27 tb_920 (by decide) (by decide) (Or.inl rfl) h0 rfl rfl ?_
  refine p_iconst dX11_span_4 (by decide) ?_
  refine p_icmp_eq (tgt := 20) (q := h a0 27 = (-1)) dX11_span_5 (by decide) Iff.rfl (fun hc => ?_) (fun hc => ?_)
  · replace hf := Eq.mp (if_pos hc) hf
    refine p_sub (ls' := []) [] rfl ?_
    exact t_X11_span_20 h0   _ hf
  · replace hf := Eq.mp (if_neg hc) hf
    refine p_iload_n dX11_span_8 rfl 1 rfl ?_
    refine p_i2l dX11_span_9 ?_
    refine p_lconst (z := 0) dX11_span_10 rfl ?_
    refine p_ldc2 (z := 50) dX11_span_11 tb_1160 (by decide) ?_
    refine p_callSi dX11_span_14 M_X11_in (Or.inr rfl) [vl x1, vl 0, vl 50] (t_X11_in _ _ _ _ _ hf) ok_X11_in rfl tb_1079 tb_1080 rfl (Nat.le_of_ble_eq_true rfl) ⟨rfl, rfl⟩ ⟨by decide, by decide⟩ ⟨by decide, by decide⟩ (fun r1 h2 hf => ?_)
    refine p_if_ne (tgt := 23) (q := r1 ≠ 0) dX11_span_17 (by decide) Iff.rfl (fun hc => ?_) (fun hc => ?_)
    · replace hf := Eq.mp (if_pos hc) hf
      refine p_aload_n dX11_span_23 rfl 0 rfl ?_
      refine p_aload_n dX11_span_24 rfl 0 rfl ?_
      refine p_lay (c := 11) (tq := 100) (n := 4) dX11_span_25 28 19 tb_921 (by decide) (by decide) h0 (by decide) (by decide) (fun _ => rfl) (vr 100 (a0 + 19) 4) rfl ?_
      refine p_iconst dX11_span_28 (by decide) ?_
      refine p_callVv dX11_span_29 M_X11_takes rfl [vr 100 (a0 + 19) 4, vi 0] (t_X11_takes _ _ _ _ _ _ h0 hf) ok_X11_takes rfl (c := 11) (by decide) h0 rfl tb_1199 ⟨tb_1201, ts_84⟩ rfl (Nat.le_of_ble_eq_true rfl) ⟨rfl, rfl⟩ ⟨by decide, by decide⟩ ⟨by decide, by decide⟩ (fun _ h3 hf => ?_)
      refine p_iconst dX11_span_32 (by decide) ?_
      refine p_istore_n (ls' := [(3, vi 0), (0, vr 11 a0 0), (1, vi x1), (2, vi x2)]) dX11_span_33 rfl (by decide) rfl ?_
      refine p_sub (ls' := [(0, vr 11 a0 0), (1, vi x1), (2, vi x2), (3, vi 0)]) [1, 2, 3, 0] rfl ?_
      refine t_X11_span_34 h0 ?_ NF _ _ _ _ hf
      · intro u9 u10 h8 hf
        refine p_aload_n dX11_span_64 rfl 0 rfl ?_
        refine p_aload_n dX11_span_65 rfl 0 rfl ?_
        refine p_get (c := 11) (vi (h8 a0 27)) dX11_span_66 27 tb_920 (by decide) (by decide) (Or.inl rfl) h0 rfl rfl ?_
        refine p_iload_n dX11_span_69 rfl 1 rfl ?_
        refine p_callVv dX11_span_70 M_X11_spans rfl [vi (h8 a0 27), vi u9] (t_X11_spans _ _ _ _ _ h0 hf) ok_X11_spans rfl (c := 11) (by decide) h0 rfl tb_1236 ⟨tb_1238, ts_91⟩ rfl (Nat.le_of_ble_eq_true rfl) ⟨rfl, rfl⟩ ⟨by decide, by decide⟩ ⟨by decide, by decide⟩ (fun _ h11 hf => ?_)
        refine p_iload_n dX11_span_73 rfl 2 rfl ?_
        refine p_if_eq (tgt := 84) (q := u10 = 0) dX11_span_74 (by decide) Iff.rfl (fun hc => ?_) (fun hc => ?_)
        · replace hf := Eq.mp (if_pos hc) hf
          refine p_aload_n dX11_span_84 rfl 0 rfl ?_
          refine p_get (c := 11) (vl (h11 a0 50)) dX11_span_85 50 tb_943 (by decide) (by decide) (Or.inl rfl) h0 rfl rfl ?_
          refine p_sub (ls' := []) [] rfl ?_
          exact t_X11_span_88 h0  _ _ hf
        · replace hf := Eq.mp (if_neg hc) hf
          refine p_aload_n dX11_span_77 rfl 0 rfl ?_
          refine p_get (c := 11) (vl (h11 a0 51)) dX11_span_78 51 tb_944 (by decide) (by decide) (Or.inl rfl) h0 rfl rfl ?_
          refine p_goto (tgt := 88) dX11_span_81 (by decide) ?_
          refine p_sub (ls' := []) [] rfl ?_
          exact t_X11_span_88 h0  _ _ hf
    · replace hf := Eq.mp (if_neg hc) hf
      refine p_sub (ls' := []) [] rfl ?_
      exact t_X11_span_20 h0   _ hf
theorem ok_X11_span : mOK M_X11_span 2 := ⟨tb_1235, tb_9, by decide +kernel⟩
abbrev M_X11_widest : MD := (yX11_widest, cX11_widest, 9, some .long)
abbrev rm_X11_widest : Room := { frames := 4, cells := 0, slots := 0, locals := 104 }
def w_X11_widest_80 (K : Int → Hh → Prop) (B : Int → Int → Int → Int → Int → Int → Int → Hh → Prop) (X87 : Int → Int → Int → Int → Int → Int → Hh → Prop) (a0 : Int) (v1 v2 v3 v4 v5 v7 v8 s0 s1 s2 s2n : Int) (h : Hh) : Prop := 0 ≤ s2 ∧ (((0 : Int) ≤ s1 ∧ (s1 : Int) < s2n) ∧ (hb (up h s2 s1 s0) fun h9 => vb (w32 (v8 + 1)) fun z10 => B v1 v2 v3 v4 v5 v7 z10 h9))
set_option maxRecDepth 100000 in
set_option maxHeartbeats 4000000 in
theorem t_X11_widest_80 {G : Gx} {n0 : Int} {K : Int → Hh → Prop} {B : Int → Int → Int → Int → Int → Int → Int → Hh → Prop} {X87 : Int → Int → Int → Int → Int → Int → Hh → Prop} {a0 : Int} (h0 : 0 ≤ a0) (hB : ∀ (v1 v2 v3 v4 v5 v7 v8 : Int) (h : Hh), B v1 v2 v3 v4 v5 v7 v8 h → PW G M_X11_widest rm_X11_widest 0 0 [] n0 K 35 [(0, vr 11 a0 0), (1, vi v1), (2, vi v2), (3, vi v3), (4, vi v4), (5, vl v5), (7, vi v7), (8, vi v8)] [] [] 0 0 h) (hX87 : ∀ (v1 v2 v3 v4 v5 v7 : Int) (h : Hh), X87 v1 v2 v3 v4 v5 v7 h → PW G M_X11_widest rm_X11_widest 0 0 [] n0 K 87 [(0, vr 11 a0 0), (1, vi v1), (2, vi v2), (3, vi v3), (4, vi v4), (5, vl v5), (7, vi v7)] [] [] 0 0 h)  (v1 v2 v3 v4 v5 v7 v8 s0 s1 s2 s2n : Int) (h : Hh) (hf : w_X11_widest_80 K B X87 a0 v1 v2 v3 v4 v5 v7 v8 s0 s1 s2 s2n h) : PW G M_X11_widest rm_X11_widest 0 0 [] n0 K 80 [(0, vr 11 a0 0), (1, vi v1), (2, vi v2), (3, vi v3), (4, vi v4), (5, vl v5), (7, vi v7), (8, vi v8)] [vi s0, vi s1, vr 100 s2 s2n] [] 0 0 h := by
  unfold w_X11_widest_80 at hf
  obtain ⟨c7, hf⟩ := hf
  obtain ⟨c8, hf⟩ := hf
  refine p_iast dX11_widest_80 c7 c8 ?_
  replace hf := hb_e hf
  generalize up h s2 s1 s0 = h9 at hf ⊢
  refine p_iinc (ls' := [(8, vi (w32 (v8 + 1))), (0, vr 11 a0 0), (1, vi v1), (2, vi v2), (3, vi v3), (4, vi v4), (5, vl v5), (7, vi v7)]) dX11_widest_81 7 rfl (by decide) rfl ?_
  replace hf := vb_e hf
  generalize w32 (v8 + 1) = z10 at hf ⊢
  refine p_goto (tgt := 35) dX11_widest_84 (by decide) ?_
  refine p_sub (ls' := [(0, vr 11 a0 0), (1, vi v1), (2, vi v2), (3, vi v3), (4, vi v4), (5, vl v5), (7, vi v7), (8, vi z10)]) [1, 2, 3, 4, 5, 6, 7, 0] rfl ?_
  exact hB _ _ _ _ _ _ _ _ hf
def w_X11_widest_35 (K : Int → Hh → Prop) (X87 : Int → Int → Int → Int → Int → Int → Hh → Prop) (a0 : Int) : Nat → Int → Int → Int → Int → Int → Int → Int → Hh → Prop
  | 0, _, _, _, _, _, _, _, _ => False
  | n + 1, v1, v2, v3, v4, v5, v7, v8, h => if v8 ≥ v4 then (X87 v1 v2 v3 v4 v5 v7 h) else (if (i32 ((i32 v7 >>> (i32 v8 &&& 31)).toInt) &&& i32 1).toInt ≠ 0 then (((0 : Int) ≤ v8 ∧ (v8 : Int) < 4) ∧ (((0 : Int) ≤ w32 ((w32 (5 * v3)) + (h (a0 + 36) v8)) ∧ (w32 ((w32 (5 * v3)) + (h (a0 + 36) v8)) : Int) < 30) ∧ (w_X11_widest_80 K (w_X11_widest_35 K X87 a0 n) X87 a0 v1 v2 v3 v4 v5 v7 v8 (w32 ((h (a0 + 9) (w32 ((w32 (5 * v3)) + (h (a0 + 36) v8)))) - 1)) v8 (a0 + 31) 4 h))) else (w_X11_widest_80 K (w_X11_widest_35 K X87 a0 n) X87 a0 v1 v2 v3 v4 v5 v7 v8 0 v8 (a0 + 31) 4 h))
set_option maxRecDepth 100000 in
set_option maxHeartbeats 4000000 in
theorem t_X11_widest_35 {G : Gx} {n0 : Int} {K : Int → Hh → Prop} {X87 : Int → Int → Int → Int → Int → Int → Hh → Prop} {a0 : Int} (h0 : 0 ≤ a0) (hX87 : ∀ (v1 v2 v3 v4 v5 v7 : Int) (h : Hh), X87 v1 v2 v3 v4 v5 v7 h → PW G M_X11_widest rm_X11_widest 0 0 [] n0 K 87 [(0, vr 11 a0 0), (1, vi v1), (2, vi v2), (3, vi v3), (4, vi v4), (5, vl v5), (7, vi v7)] [] [] 0 0 h) : ∀ (n : Nat) (v1 v2 v3 v4 v5 v7 v8 : Int) (h : Hh), w_X11_widest_35 K X87 a0 n v1 v2 v3 v4 v5 v7 v8 h → PW G M_X11_widest rm_X11_widest 0 0 [] n0 K 35 [(0, vr 11 a0 0), (1, vi v1), (2, vi v2), (3, vi v3), (4, vi v4), (5, vl v5), (7, vi v7), (8, vi v8)] [] [] 0 0 h := by
  intro n
  induction n with
  | zero =>
    intro v1 v2 v3 v4 v5 v7 v8 h hf
    rw [w_X11_widest_35] at hf
    exact hf.elim
  | succ n ih =>
    intro v1 v2 v3 v4 v5 v7 v8 h hf
    rw [w_X11_widest_35] at hf
    refine p_iload dX11_widest_35 7 rfl ?_
    refine p_iload dX11_widest_37 4 rfl ?_
    refine p_icmp_ge (tgt := 87) (q := v8 ≥ v4) dX11_widest_39 (by decide) Iff.rfl (fun hc => ?_) (fun hc => ?_)
    · replace hf := Eq.mp (if_pos hc) hf
      refine p_sub (ls' := [(0, vr 11 a0 0), (1, vi v1), (2, vi v2), (3, vi v3), (4, vi v4), (5, vl v5), (7, vi v7)]) [0, 1, 2, 3, 4, 5, 6] rfl ?_
      exact hX87 _ _ _ _ _ _ _ hf
    · replace hf := Eq.mp (if_neg hc) hf
      refine p_aload_n dX11_widest_42 rfl 0 rfl ?_
      refine p_lay (c := 11) (tq := 100) (n := 4) dX11_widest_43 44 31 tb_937 (by decide) (by decide) h0 (by decide) (by decide) (fun _ => rfl) (vr 100 (a0 + 31) 4) rfl ?_
      refine p_iload dX11_widest_46 7 rfl ?_
      refine p_iload dX11_widest_48 6 rfl ?_
      refine p_iload dX11_widest_50 7 rfl ?_
      refine p_ishr dX11_widest_52 ?_
      refine p_iconst dX11_widest_53 (by decide) ?_
      refine p_iand dX11_widest_54 ?_
      refine p_if_ne (tgt := 62) (q := (i32 ((i32 v7 >>> (i32 v8 &&& 31)).toInt) &&& i32 1).toInt ≠ 0) dX11_widest_55 (by decide) Iff.rfl (fun hc => ?_) (fun hc => ?_)
      · replace hf := Eq.mp (if_pos hc) hf
        refine p_aload_n dX11_widest_62 rfl 0 rfl ?_
        refine p_lay (c := 11) (tq := 100) (n := 30) dX11_widest_63 16 9 tb_909 (by decide) (by decide) h0 (by decide) (by decide) (fun _ => rfl) (vr 100 (a0 + 9) 30) rfl ?_
        refine p_iconst dX11_widest_66 (by decide) ?_
        refine p_iload_n dX11_widest_67 rfl 3 rfl ?_
        refine p_imul dX11_widest_68 ?_
        refine p_aload_n dX11_widest_69 rfl 0 rfl ?_
        refine p_lay (c := 11) (tq := 100) (n := 4) dX11_widest_70 49 36 tb_942 (by decide) (by decide) h0 (by decide) (by decide) (fun _ => rfl) (vr 100 (a0 + 36) 4) rfl ?_
        refine p_iload dX11_widest_73 7 rfl ?_
        obtain ⟨c5, hf⟩ := hf
        refine p_iald dX11_widest_75 (nnk h0 (by decide)) c5 ?_
        refine p_iadd dX11_widest_76 ?_
        obtain ⟨c6, hf⟩ := hf
        refine p_iald dX11_widest_77 (nnk h0 (by decide)) c6 ?_
        refine p_iconst dX11_widest_78 (by decide) ?_
        refine p_isub dX11_widest_79 ?_
        exact t_X11_widest_80 h0 ih hX87 _ _ _ _ _ _ _ _ _ _ _ _ hf
      · replace hf := Eq.mp (if_neg hc) hf
        refine p_iconst dX11_widest_58 (by decide) ?_
        refine p_goto (tgt := 80) dX11_widest_59 (by decide) ?_
        exact t_X11_widest_80 h0 ih hX87 _ _ _ _ _ _ _ _ _ _ _ _ hf
def w_X11_widest_119 (K : Int → Hh → Prop) (B : Int → Int → Int → Int → Int → Int → Hh → Prop) (a0 : Int) (v1 v2 v3 v4 v5 v7 : Int) (h : Hh) : Prop := vb (w32 (v7 + 1)) fun z19 => B v1 v2 v3 v4 v5 z19 h
set_option maxRecDepth 100000 in
set_option maxHeartbeats 4000000 in
theorem t_X11_widest_119 {G : Gx} {n0 : Int} {K : Int → Hh → Prop} {B : Int → Int → Int → Int → Int → Int → Hh → Prop} {a0 : Int} (h0 : 0 ≤ a0) (hB : ∀ (v1 v2 v3 v4 v5 v7 : Int) (h : Hh), B v1 v2 v3 v4 v5 v7 h → PW G M_X11_widest rm_X11_widest 0 0 [] n0 K 23 [(0, vr 11 a0 0), (1, vi v1), (2, vi v2), (3, vi v3), (4, vi v4), (5, vl v5), (7, vi v7)] [] [] 0 0 h)  (v1 v2 v3 v4 v5 v7 : Int) (h : Hh) (hf : w_X11_widest_119 K B a0 v1 v2 v3 v4 v5 v7 h) : PW G M_X11_widest rm_X11_widest 0 0 [] n0 K 119 [(0, vr 11 a0 0), (1, vi v1), (2, vi v2), (3, vi v3), (4, vi v4), (5, vl v5), (7, vi v7)] [] [] 0 0 h := by
  unfold w_X11_widest_119 at hf
  refine p_iinc (ls' := [(7, vi (w32 (v7 + 1))), (0, vr 11 a0 0), (1, vi v1), (2, vi v2), (3, vi v3), (4, vi v4), (5, vl v5)]) dX11_widest_119 6 rfl (by decide) rfl ?_
  replace hf := vb_e hf
  generalize w32 (v7 + 1) = z19 at hf ⊢
  refine p_goto (tgt := 23) dX11_widest_122 (by decide) ?_
  refine p_sub (ls' := [(0, vr 11 a0 0), (1, vi v1), (2, vi v2), (3, vi v3), (4, vi v4), (5, vl v5), (7, vi z19)]) [1, 2, 3, 4, 5, 6, 0] rfl ?_
  exact hB _ _ _ _ _ _ _ hf
def w_X11_widest_23 (K : Int → Hh → Prop) (a0 : Int) : Nat → Int → Int → Int → Int → Int → Int → Hh → Prop
  | 0, _, _, _, _, _, _, _ => False
  | n + 1, v1, v2, v3, v4, v5, v7, h => if v7 ≥ (i32 1 <<< (i32 v4 &&& 31)).toInt then (K v5 h) else (w_X11_widest_35 K (fun u12 u13 u14 u15 u16 u17 h11 => w_X11_spans a0 u12 u13 h11 (fun _ h18 => if w64 ((h18 a0 51) - (h18 a0 50)) ≤ u16 then (w_X11_widest_119 K (w_X11_widest_23 K  a0 n) a0 u12 u13 u14 u15 u16 u17 h18) else (vb (w64 ((h18 a0 51) - (h18 a0 50))) fun z20 => w_X11_widest_119 K (w_X11_widest_23 K  a0 n) a0 u12 u13 u14 u15 z20 u17 h18))) a0 NF v1 v2 v3 v4 v5 v7 0 h)
set_option maxRecDepth 100000 in
set_option maxHeartbeats 4000000 in
theorem t_X11_widest_23 {G : Gx} {n0 : Int} {K : Int → Hh → Prop} {a0 : Int} (h0 : 0 ≤ a0) : ∀ (n : Nat) (v1 v2 v3 v4 v5 v7 : Int) (h : Hh), w_X11_widest_23 K  a0 n v1 v2 v3 v4 v5 v7 h → PW G M_X11_widest rm_X11_widest 0 0 [] n0 K 23 [(0, vr 11 a0 0), (1, vi v1), (2, vi v2), (3, vi v3), (4, vi v4), (5, vl v5), (7, vi v7)] [] [] 0 0 h := by
  intro n
  induction n with
  | zero =>
    intro v1 v2 v3 v4 v5 v7 h hf
    rw [w_X11_widest_23] at hf
    exact hf.elim
  | succ n ih =>
    intro v1 v2 v3 v4 v5 v7 h hf
    rw [w_X11_widest_23] at hf
    refine p_iload dX11_widest_23 6 rfl ?_
    refine p_iconst dX11_widest_25 (by decide) ?_
    refine p_iload dX11_widest_26 4 rfl ?_
    refine p_ishl dX11_widest_28 ?_
    refine p_icmp_ge (tgt := 125) (q := v7 ≥ (i32 1 <<< (i32 v4 &&& 31)).toInt) dX11_widest_29 (by decide) Iff.rfl (fun hc => ?_) (fun hc => ?_)
    · replace hf := Eq.mp (if_pos hc) hf
      refine p_lload dX11_widest_125 5 rfl ?_
      exact p_lret dX11_widest_127 rfl (by decide) (by decide) (fun _ h => absurd h List.not_mem_nil) hf
    · replace hf := Eq.mp (if_neg hc) hf
      refine p_iconst dX11_widest_32 (by decide) ?_
      refine p_istore (ls' := [(8, vi 0), (0, vr 11 a0 0), (1, vi v1), (2, vi v2), (3, vi v3), (4, vi v4), (5, vl v5), (7, vi v7)]) dX11_widest_33 (by decide) rfl ?_
      refine p_sub (ls' := [(0, vr 11 a0 0), (1, vi v1), (2, vi v2), (3, vi v3), (4, vi v4), (5, vl v5), (7, vi v7), (8, vi 0)]) [1, 2, 3, 4, 5, 6, 7, 0] rfl ?_
      refine t_X11_widest_35 h0 ?_ NF _ _ _ _ _ _ _ _ hf
      · intro u12 u13 u14 u15 u16 u17 h11 hf
        refine p_aload_n dX11_widest_87 rfl 0 rfl ?_
        refine p_iload_n dX11_widest_88 rfl 1 rfl ?_
        refine p_iload_n dX11_widest_89 rfl 2 rfl ?_
        refine p_callVv dX11_widest_90 M_X11_spans rfl [vi u12, vi u13] (t_X11_spans _ _ _ _ _ h0 hf) ok_X11_spans rfl (c := 11) (by decide) h0 rfl tb_1236 ⟨tb_1238, ts_91⟩ rfl (Nat.le_of_ble_eq_true rfl) ⟨rfl, rfl⟩ ⟨by decide, by decide⟩ ⟨by decide, by decide⟩ (fun _ h18 hf => ?_)
        refine p_aload_n dX11_widest_93 rfl 0 rfl ?_
        refine p_get (c := 11) (vl (h18 a0 51)) dX11_widest_94 51 tb_944 (by decide) (by decide) (Or.inl rfl) h0 rfl rfl ?_
        refine p_aload_n dX11_widest_97 rfl 0 rfl ?_
        refine p_get (c := 11) (vl (h18 a0 50)) dX11_widest_98 50 tb_943 (by decide) (by decide) (Or.inl rfl) h0 rfl rfl ?_
        refine p_lsub dX11_widest_101 ?_
        refine p_lload dX11_widest_102 5 rfl ?_
        refine p_lcmp (z := (if w64 ((h18 a0 51) - (h18 a0 50)) < u16 then (-1) else if w64 ((h18 a0 51) - (h18 a0 50)) = u16 then 0 else 1)) dX11_widest_104 rfl ?_
        refine p_if_le (tgt := 119) (q := w64 ((h18 a0 51) - (h18 a0 50)) ≤ u16) dX11_widest_105 (by decide) (lc_le (w64 ((h18 a0 51) - (h18 a0 50))) u16) (fun hc => ?_) (fun hc => ?_)
        · replace hf := Eq.mp (if_pos hc) hf
          exact t_X11_widest_119 h0 ih _ _ _ _ _ _ _ hf
        · replace hf := Eq.mp (if_neg hc) hf
          refine p_aload_n dX11_widest_108 rfl 0 rfl ?_
          refine p_get (c := 11) (vl (h18 a0 51)) dX11_widest_109 51 tb_944 (by decide) (by decide) (Or.inl rfl) h0 rfl rfl ?_
          refine p_aload_n dX11_widest_112 rfl 0 rfl ?_
          refine p_get (c := 11) (vl (h18 a0 50)) dX11_widest_113 50 tb_943 (by decide) (by decide) (Or.inl rfl) h0 rfl rfl ?_
          refine p_lsub dX11_widest_116 ?_
          refine p_lstore (ls' := [(5, vl (w64 ((h18 a0 51) - (h18 a0 50)))), (0, vr 11 a0 0), (1, vi u12), (2, vi u13), (3, vi u14), (4, vi u15), (7, vi u17)]) dX11_widest_117 (by decide) rfl ?_
          replace hf := vb_e hf
          generalize (w64 ((h18 a0 51) - (h18 a0 50))) = z20 at hf ⊢
          refine p_sub (ls' := [(0, vr 11 a0 0), (1, vi u12), (2, vi u13), (3, vi u14), (4, vi u15), (5, vl z20), (7, vi u17)]) [1, 2, 3, 4, 5, 0, 6] rfl ?_
          exact t_X11_widest_119 h0 ih _ _ _ _ _ _ _ hf
def w_X11_widest (a0 x1 x2 : Int) (h : Hh) (K : Int → Hh → Prop) : Prop := ((0 : Int) ≤ x1 ∧ (x1 : Int) < 6) ∧ (vb (h (a0 + 11) x1) fun z2 => ((0 : Int) ≤ z2 ∧ (z2 : Int) < 6) ∧ (vb (w32 ((h (a0 + 5) z2) - 1)) fun z4 => w_X11_widest_23 K  a0 NF x1 x2 z2 z4 0 0 h))
set_option maxRecDepth 100000 in
set_option maxHeartbeats 4000000 in
theorem t_X11_widest {G : Gx} (a0 x1 x2 : Int) (h : Hh) (K : Int → Hh → Prop) (h0 : 0 ≤ a0) (hf : w_X11_widest a0 x1 x2 h K) : CT G M_X11_widest rm_X11_widest 0 0 [] [vr 11 a0 0, vi x1, vi x2] h K := by
  unfold w_X11_widest at hf
  refine CT.of (ls0 := [(0, vr 11 a0 0), (1, vi x1), (2, vi x2)]) (plainFor_of_name (by decide +kernel)) (by decide +kernel) (Nat.le_of_ble_eq_true rfl) rfl rfl ?_
  refine p_aload_n dX11_widest_0 rfl 0 rfl ?_
  refine p_lay (c := 11) (tq := 100) (n := 6) dX11_widest_1 19 11 tb_912 (by decide) (by decide) h0 (by decide) (by decide) (fun _ => rfl) (vr 100 (a0 + 11) 6) rfl ?_
  refine p_iload_n dX11_widest_4 rfl 1 rfl ?_
  obtain ⟨c1, hf⟩ := hf
  refine p_iald dX11_widest_5 (nnk h0 (by decide)) c1 ?_
  refine p_istore_n (ls' := [(3, vi (h (a0 + 11) x1)), (0, vr 11 a0 0), (1, vi x1), (2, vi x2)]) dX11_widest_6 rfl (by decide) rfl ?_
  replace hf := vb_e hf
  generalize (h (a0 + 11) x1) = z2 at hf ⊢
  refine p_aload_n dX11_widest_7 rfl 1 rfl ?_
  refine p_lay (c := 11) (tq := 100) (n := 6) dX11_widest_8 12 5 tb_905 (by decide) (by decide) h0 (by decide) (by decide) (fun _ => rfl) (vr 100 (a0 + 5) 6) rfl ?_
  refine p_iload_n dX11_widest_11 rfl 0 rfl ?_
  obtain ⟨c3, hf⟩ := hf
  refine p_iald dX11_widest_12 (nnk h0 (by decide)) c3 ?_
  refine p_iconst dX11_widest_13 (by decide) ?_
  refine p_isub dX11_widest_14 ?_
  refine p_istore (ls' := [(4, vi (w32 ((h (a0 + 5) z2) - 1))), (3, vi z2), (0, vr 11 a0 0), (1, vi x1), (2, vi x2)]) dX11_widest_15 (by decide) rfl ?_
  replace hf := vb_e hf
  generalize (w32 ((h (a0 + 5) z2) - 1)) = z4 at hf ⊢
  refine p_lconst (z := 0) dX11_widest_17 rfl ?_
  refine p_lstore (ls' := [(5, vl 0), (4, vi z4), (3, vi z2), (0, vr 11 a0 0), (1, vi x1), (2, vi x2)]) dX11_widest_18 (by decide) rfl ?_
  refine p_iconst dX11_widest_20 (by decide) ?_
  refine p_istore (ls' := [(7, vi 0), (5, vl 0), (4, vi z4), (3, vi z2), (0, vr 11 a0 0), (1, vi x1), (2, vi x2)]) dX11_widest_21 (by decide) rfl ?_
  refine p_sub (ls' := [(0, vr 11 a0 0), (1, vi x1), (2, vi x2), (3, vi z2), (4, vi z4), (5, vl 0), (7, vi 0)]) [4, 5, 6, 3, 2, 1, 0] rfl ?_
  refine t_X11_widest_23 h0  NF _ _ _ _ _ _ _ hf
theorem ok_X11_widest : mOK M_X11_widest 2 := ⟨tb_1251, tb_9, by decide +kernel⟩
abbrev M_X11_sharpest : MD := (yX11_sharpest, cX11_sharpest, 15, some .int)
abbrev rm_X11_sharpest : Room := { frames := 5, cells := 0, slots := 0, locals := 132 }
def w_X11_sharpest_30 (K : Int → Hh → Prop) (a0 : Int) (h : Hh) : Prop := K (-1) h
set_option maxRecDepth 100000 in
set_option maxHeartbeats 4000000 in
theorem t_X11_sharpest_30 {G : Gx} {n0 : Int} {K : Int → Hh → Prop} {a0 : Int} (h0 : 0 ≤ a0)  (h : Hh) (hf : w_X11_sharpest_30 K  a0  h) : PW G M_X11_sharpest rm_X11_sharpest 0 0 [] n0 K 30 [] [] [] 0 0 h := by
  unfold w_X11_sharpest_30 at hf
  refine p_iconst dX11_sharpest_30 (by decide) ?_
  exact p_iret dX11_sharpest_31 rfl (by decide) (by decide) (fun _ h => absurd h List.not_mem_nil) hf
def w_X11_sharpest_188 (K : Int → Hh → Prop) (B : Int → Int → Int → Int → Int → Int → Int → Int → Int → Int → Int → Hh → Prop) (X194 : Int → Int → Int → Int → Int → Int → Int → Int → Int → Hh → Prop) (a0 : Int) (v1 v2 v3 v4 v5 v6 v9 v10 v11 v12 v13 : Int) (h : Hh) : Prop := vb (w32 (v13 + (-1))) fun z16 => B v1 v2 v3 v4 v5 v6 v9 v10 v11 v12 z16 h
set_option maxRecDepth 100000 in
set_option maxHeartbeats 4000000 in
theorem t_X11_sharpest_188 {G : Gx} {n0 : Int} {K : Int → Hh → Prop} {B : Int → Int → Int → Int → Int → Int → Int → Int → Int → Int → Int → Hh → Prop} {X194 : Int → Int → Int → Int → Int → Int → Int → Int → Int → Hh → Prop} {a0 : Int} (h0 : 0 ≤ a0) (hB : ∀ (v1 v2 v3 v4 v5 v6 v9 v10 v11 v12 v13 : Int) (h : Hh), B v1 v2 v3 v4 v5 v6 v9 v10 v11 v12 v13 h → PW G M_X11_sharpest rm_X11_sharpest 0 0 [] n0 K 132 [(0, vr 11 a0 0), (1, vi v1), (2, vi v2), (3, vi v3), (4, vi v4), (5, vi v5), (6, vl v6), (9, vi v9), (10, vi v10), (11, vi v11), (12, vi v12), (13, vi v13)] [] [] 0 0 h) (hX194 : ∀ (v1 v2 v3 v4 v5 v6 v9 v10 v12 : Int) (h : Hh), X194 v1 v2 v3 v4 v5 v6 v9 v10 v12 h → PW G M_X11_sharpest rm_X11_sharpest 0 0 [] n0 K 194 [(0, vr 11 a0 0), (1, vi v1), (2, vi v2), (3, vi v3), (4, vi v4), (5, vi v5), (6, vl v6), (9, vi v9), (10, vi v10), (12, vi v12)] [] [] 0 0 h)  (v1 v2 v3 v4 v5 v6 v9 v10 v11 v12 v13 : Int) (h : Hh) (hf : w_X11_sharpest_188 K B X194 a0 v1 v2 v3 v4 v5 v6 v9 v10 v11 v12 v13 h) : PW G M_X11_sharpest rm_X11_sharpest 0 0 [] n0 K 188 [(0, vr 11 a0 0), (1, vi v1), (2, vi v2), (3, vi v3), (4, vi v4), (5, vi v5), (6, vl v6), (9, vi v9), (10, vi v10), (11, vi v11), (12, vi v12), (13, vi v13)] [] [] 0 0 h := by
  unfold w_X11_sharpest_188 at hf
  refine p_iinc (ls' := [(13, vi (w32 (v13 + (-1)))), (0, vr 11 a0 0), (1, vi v1), (2, vi v2), (3, vi v3), (4, vi v4), (5, vi v5), (6, vl v6), (9, vi v9), (10, vi v10), (11, vi v11), (12, vi v12)]) dX11_sharpest_188 11 rfl (by decide) rfl ?_
  replace hf := vb_e hf
  generalize w32 (v13 + (-1)) = z16 at hf ⊢
  refine p_goto (tgt := 132) dX11_sharpest_191 (by decide) ?_
  refine p_sub (ls' := [(0, vr 11 a0 0), (1, vi v1), (2, vi v2), (3, vi v3), (4, vi v4), (5, vi v5), (6, vl v6), (9, vi v9), (10, vi v10), (11, vi v11), (12, vi v12), (13, vi z16)]) [1, 2, 3, 4, 5, 6, 7, 8, 9, 10, 11, 0] rfl ?_
  exact hB _ _ _ _ _ _ _ _ _ _ _ _ hf
def w_X11_sharpest_132 (K : Int → Hh → Prop) (X194 : Int → Int → Int → Int → Int → Int → Int → Int → Int → Hh → Prop) (a0 : Int) : Nat → Int → Int → Int → Int → Int → Int → Int → Int → Int → Int → Int → Hh → Prop
  | 0, _, _, _, _, _, _, _, _, _, _, _, _ => False
  | n + 1, v1, v2, v3, v4, v5, v6, v9, v10, v11, v12, v13, h => if v13 < 0 then (X194 v1 v2 v3 v4 v5 v6 v9 v10 v12 h) else (((0 : Int) ≤ v13 ∧ (v13 : Int) < 4) ∧ (hb (up h (a0 + 36) v13 (Int.tmod v11 10)) fun h12 => vb (w32 (Int.tdiv v11 10)) fun z13 => w_X11_in (h12 (a0 + 36) v13) 1 v4 h12 (fun r14 h15 => if r14 = 0 then (w_X11_sharpest_188 K (w_X11_sharpest_132 K X194 a0 n) X194 a0 v1 v2 v3 v4 v5 v6 v9 v10 z13 v12 v13 h15) else (vb ((i32 v12 ||| i32 ((i32 1 <<< (i32 (h15 (a0 + 36) v13) &&& 31)).toInt)).toInt) fun z17 => w_X11_sharpest_188 K (w_X11_sharpest_132 K X194 a0 n) X194 a0 v1 v2 v3 v4 v5 v6 v9 v10 z13 z17 v13 h15))))
set_option maxRecDepth 100000 in
set_option maxHeartbeats 4000000 in
theorem t_X11_sharpest_132 {G : Gx} {n0 : Int} {K : Int → Hh → Prop} {X194 : Int → Int → Int → Int → Int → Int → Int → Int → Int → Hh → Prop} {a0 : Int} (h0 : 0 ≤ a0) (hX194 : ∀ (v1 v2 v3 v4 v5 v6 v9 v10 v12 : Int) (h : Hh), X194 v1 v2 v3 v4 v5 v6 v9 v10 v12 h → PW G M_X11_sharpest rm_X11_sharpest 0 0 [] n0 K 194 [(0, vr 11 a0 0), (1, vi v1), (2, vi v2), (3, vi v3), (4, vi v4), (5, vi v5), (6, vl v6), (9, vi v9), (10, vi v10), (12, vi v12)] [] [] 0 0 h) : ∀ (n : Nat) (v1 v2 v3 v4 v5 v6 v9 v10 v11 v12 v13 : Int) (h : Hh), w_X11_sharpest_132 K X194 a0 n v1 v2 v3 v4 v5 v6 v9 v10 v11 v12 v13 h → PW G M_X11_sharpest rm_X11_sharpest 0 0 [] n0 K 132 [(0, vr 11 a0 0), (1, vi v1), (2, vi v2), (3, vi v3), (4, vi v4), (5, vi v5), (6, vl v6), (9, vi v9), (10, vi v10), (11, vi v11), (12, vi v12), (13, vi v13)] [] [] 0 0 h := by
  intro n
  induction n with
  | zero =>
    intro v1 v2 v3 v4 v5 v6 v9 v10 v11 v12 v13 h hf
    rw [w_X11_sharpest_132] at hf
    exact hf.elim
  | succ n ih =>
    intro v1 v2 v3 v4 v5 v6 v9 v10 v11 v12 v13 h hf
    rw [w_X11_sharpest_132] at hf
    refine p_iload dX11_sharpest_132 11 rfl ?_
    refine p_if_lt (tgt := 194) (q := v13 < 0) dX11_sharpest_134 (by decide) Iff.rfl (fun hc => ?_) (fun hc => ?_)
    · replace hf := Eq.mp (if_pos hc) hf
      refine p_sub (ls' := [(0, vr 11 a0 0), (1, vi v1), (2, vi v2), (3, vi v3), (4, vi v4), (5, vi v5), (6, vl v6), (9, vi v9), (10, vi v10), (12, vi v12)]) [0, 1, 2, 3, 4, 5, 6, 7, 8, 10] rfl ?_
      exact hX194 _ _ _ _ _ _ _ _ _ _ hf
    · replace hf := Eq.mp (if_neg hc) hf
      refine p_aload_n dX11_sharpest_137 rfl 0 rfl ?_
      refine p_lay (c := 11) (tq := 100) (n := 4) dX11_sharpest_138 49 36 tb_942 (by decide) (by decide) h0 (by decide) (by decide) (fun _ => rfl) (vr 100 (a0 + 36) 4) rfl ?_
      refine p_iload dX11_sharpest_141 11 rfl ?_
      refine p_iload dX11_sharpest_143 9 rfl ?_
      refine p_bipush dX11_sharpest_145 (by decide) (by decide) ?_
      refine p_irem dX11_sharpest_147 (by decide) ?_
      obtain ⟨c11, hf⟩ := hf
      refine p_iast dX11_sharpest_148 (nnk h0 (by decide)) c11 ?_
      replace hf := hb_e hf
      generalize up h (a0 + 36) v13 (Int.tmod v11 10) = h12 at hf ⊢
      refine p_iload dX11_sharpest_149 9 rfl ?_
      refine p_bipush dX11_sharpest_151 (by decide) (by decide) ?_
      refine p_idiv dX11_sharpest_153 (by decide) ?_
      refine p_istore (ls' := [(11, vi (w32 (Int.tdiv v11 10))), (0, vr 11 a0 0), (1, vi v1), (2, vi v2), (3, vi v3), (4, vi v4), (5, vi v5), (6, vl v6), (9, vi v9), (10, vi v10), (12, vi v12), (13, vi v13)]) dX11_sharpest_154 (by decide) rfl ?_
      replace hf := vb_e hf
      generalize (w32 (Int.tdiv v11 10)) = z13 at hf ⊢
      refine p_aload_n dX11_sharpest_156 rfl 1 rfl ?_
      refine p_lay (c := 11) (tq := 100) (n := 4) dX11_sharpest_157 49 36 tb_942 (by decide) (by decide) h0 (by decide) (by decide) (fun _ => rfl) (vr 100 (a0 + 36) 4) rfl ?_
      refine p_iload dX11_sharpest_160 11 rfl ?_
      refine p_iald dX11_sharpest_162 (nnk h0 (by decide)) c11 ?_
      refine p_i2l dX11_sharpest_163 ?_
      refine p_lconst (z := 1) dX11_sharpest_164 rfl ?_
      refine p_iload dX11_sharpest_165 5 rfl ?_
      refine p_i2l dX11_sharpest_167 ?_
      refine p_callSi dX11_sharpest_168 M_X11_in (Or.inr rfl) [vl (h12 (a0 + 36) v13), vl 1, vl v4] (t_X11_in _ _ _ _ _ hf) ok_X11_in rfl tb_1079 tb_1080 rfl (Nat.le_of_ble_eq_true rfl) ⟨rfl, rfl⟩ ⟨by decide, by decide⟩ ⟨by decide, by decide⟩ (fun r14 h15 hf => ?_)
      refine p_if_eq (tgt := 188) (q := r14 = 0) dX11_sharpest_171 (by decide) Iff.rfl (fun hc => ?_) (fun hc => ?_)
      · replace hf := Eq.mp (if_pos hc) hf
        refine p_sub (ls' := [(0, vr 11 a0 0), (1, vi v1), (2, vi v2), (3, vi v3), (4, vi v4), (5, vi v5), (6, vl v6), (9, vi v9), (10, vi v10), (11, vi z13), (12, vi v12), (13, vi v13)]) [1, 2, 3, 4, 5, 6, 7, 8, 9, 0, 10, 11] rfl ?_
        exact t_X11_sharpest_188 h0 ih hX194 _ _ _ _ _ _ _ _ _ _ _ _ hf
      · replace hf := Eq.mp (if_neg hc) hf
        refine p_iload dX11_sharpest_174 10 rfl ?_
        refine p_iconst dX11_sharpest_176 (by decide) ?_
        refine p_aload_n dX11_sharpest_177 rfl 1 rfl ?_
        refine p_lay (c := 11) (tq := 100) (n := 4) dX11_sharpest_178 49 36 tb_942 (by decide) (by decide) h0 (by decide) (by decide) (fun _ => rfl) (vr 100 (a0 + 36) 4) rfl ?_
        refine p_iload dX11_sharpest_181 11 rfl ?_
        refine p_iald dX11_sharpest_183 (nnk h0 (by decide)) c11 ?_
        refine p_ishl dX11_sharpest_184 ?_
        refine p_ior dX11_sharpest_185 ?_
        refine p_istore (ls' := [(12, vi ((i32 v12 ||| i32 ((i32 1 <<< (i32 (h15 (a0 + 36) v13) &&& 31)).toInt)).toInt)), (11, vi z13), (0, vr 11 a0 0), (1, vi v1), (2, vi v2), (3, vi v3), (4, vi v4), (5, vi v5), (6, vl v6), (9, vi v9), (10, vi v10), (13, vi v13)]) dX11_sharpest_186 (by decide) rfl ?_
        replace hf := vb_e hf
        generalize ((i32 v12 ||| i32 ((i32 1 <<< (i32 (h15 (a0 + 36) v13) &&& 31)).toInt)).toInt) = z17 at hf ⊢
        refine p_sub (ls' := [(0, vr 11 a0 0), (1, vi v1), (2, vi v2), (3, vi v3), (4, vi v4), (5, vi v5), (6, vl v6), (9, vi v9), (10, vi v10), (11, vi z13), (12, vi z17), (13, vi v13)]) [2, 3, 4, 5, 6, 7, 8, 9, 10, 1, 0, 11] rfl ?_
        exact t_X11_sharpest_188 h0 ih hX194 _ _ _ _ _ _ _ _ _ _ _ _ hf
def w_X11_sharpest_243 (K : Int → Hh → Prop) (B : Int → Int → Int → Int → Int → Int → Int → Int → Hh → Prop) (X249 : Int → Int → Int → Hh → Prop) (a0 : Int) (v1 v2 v3 v4 v5 v6 v9 v10 : Int) (h : Hh) : Prop := vb (w32 (v10 + 1)) fun z30 => B v1 v2 v3 v4 v5 v6 v9 z30 h
set_option maxRecDepth 100000 in
set_option maxHeartbeats 4000000 in
theorem t_X11_sharpest_243 {G : Gx} {n0 : Int} {K : Int → Hh → Prop} {B : Int → Int → Int → Int → Int → Int → Int → Int → Hh → Prop} {X249 : Int → Int → Int → Hh → Prop} {a0 : Int} (h0 : 0 ≤ a0) (hB : ∀ (v1 v2 v3 v4 v5 v6 v9 v10 : Int) (h : Hh), B v1 v2 v3 v4 v5 v6 v9 v10 h → PW G M_X11_sharpest rm_X11_sharpest 0 0 [] n0 K 112 [(0, vr 11 a0 0), (1, vi v1), (2, vi v2), (3, vi v3), (4, vi v4), (5, vi v5), (6, vl v6), (9, vi v9), (10, vi v10)] [] [] 0 0 h) (hX249 : ∀ (v3 v5 v6 : Int) (h : Hh), X249 v3 v5 v6 h → PW G M_X11_sharpest rm_X11_sharpest 0 0 [] n0 K 249 [(3, vi v3), (5, vi v5), (6, vl v6)] [] [] 0 0 h)  (v1 v2 v3 v4 v5 v6 v9 v10 : Int) (h : Hh) (hf : w_X11_sharpest_243 K B X249 a0 v1 v2 v3 v4 v5 v6 v9 v10 h) : PW G M_X11_sharpest rm_X11_sharpest 0 0 [] n0 K 243 [(0, vr 11 a0 0), (1, vi v1), (2, vi v2), (3, vi v3), (4, vi v4), (5, vi v5), (6, vl v6), (9, vi v9), (10, vi v10)] [] [] 0 0 h := by
  unfold w_X11_sharpest_243 at hf
  refine p_iinc (ls' := [(10, vi (w32 (v10 + 1))), (0, vr 11 a0 0), (1, vi v1), (2, vi v2), (3, vi v3), (4, vi v4), (5, vi v5), (6, vl v6), (9, vi v9)]) dX11_sharpest_243 8 rfl (by decide) rfl ?_
  replace hf := vb_e hf
  generalize w32 (v10 + 1) = z30 at hf ⊢
  refine p_goto (tgt := 112) dX11_sharpest_246 (by decide) ?_
  refine p_sub (ls' := [(0, vr 11 a0 0), (1, vi v1), (2, vi v2), (3, vi v3), (4, vi v4), (5, vi v5), (6, vl v6), (9, vi v9), (10, vi z30)]) [1, 2, 3, 4, 5, 6, 7, 8, 0] rfl ?_
  exact hB _ _ _ _ _ _ _ _ _ hf
def w_X11_sharpest_235 (K : Int → Hh → Prop) (B : Int → Int → Int → Int → Int → Int → Int → Int → Hh → Prop) (X249 : Int → Int → Int → Hh → Prop) (a0 : Int) (v1 v2 v3 v4 v9 v10 v13 : Int) (h : Hh) : Prop := w_X11_sharpest_243 K B X249 a0 v1 v2 v3 v4 v10 v13 v9 v10 h
set_option maxRecDepth 100000 in
set_option maxHeartbeats 4000000 in
theorem t_X11_sharpest_235 {G : Gx} {n0 : Int} {K : Int → Hh → Prop} {B : Int → Int → Int → Int → Int → Int → Int → Int → Hh → Prop} {X249 : Int → Int → Int → Hh → Prop} {a0 : Int} (h0 : 0 ≤ a0) (hB : ∀ (v1 v2 v3 v4 v5 v6 v9 v10 : Int) (h : Hh), B v1 v2 v3 v4 v5 v6 v9 v10 h → PW G M_X11_sharpest rm_X11_sharpest 0 0 [] n0 K 112 [(0, vr 11 a0 0), (1, vi v1), (2, vi v2), (3, vi v3), (4, vi v4), (5, vi v5), (6, vl v6), (9, vi v9), (10, vi v10)] [] [] 0 0 h) (hX249 : ∀ (v3 v5 v6 : Int) (h : Hh), X249 v3 v5 v6 h → PW G M_X11_sharpest rm_X11_sharpest 0 0 [] n0 K 249 [(3, vi v3), (5, vi v5), (6, vl v6)] [] [] 0 0 h)  (v1 v2 v3 v4 v9 v10 v13 : Int) (h : Hh) (hf : w_X11_sharpest_235 K B X249 a0 v1 v2 v3 v4 v9 v10 v13 h) : PW G M_X11_sharpest rm_X11_sharpest 0 0 [] n0 K 235 [(0, vr 11 a0 0), (1, vi v1), (2, vi v2), (3, vi v3), (4, vi v4), (9, vi v9), (10, vi v10), (13, vl v13)] [] [] 0 0 h := by
  unfold w_X11_sharpest_235 at hf
  refine p_iload dX11_sharpest_235 6 rfl ?_
  refine p_istore (ls' := [(5, vi v10), (0, vr 11 a0 0), (1, vi v1), (2, vi v2), (3, vi v3), (4, vi v4), (9, vi v9), (10, vi v10), (13, vl v13)]) dX11_sharpest_237 (by decide) rfl ?_
  refine p_lload dX11_sharpest_239 8 rfl ?_
  refine p_lstore (ls' := [(6, vl v13), (5, vi v10), (0, vr 11 a0 0), (1, vi v1), (2, vi v2), (3, vi v3), (4, vi v4), (9, vi v9), (10, vi v10), (13, vl v13)]) dX11_sharpest_241 (by decide) rfl ?_
  refine p_sub (ls' := [(0, vr 11 a0 0), (1, vi v1), (2, vi v2), (3, vi v3), (4, vi v4), (5, vi v10), (6, vl v13), (9, vi v9), (10, vi v10)]) [2, 3, 4, 5, 6, 1, 0, 7, 8] rfl ?_
  exact t_X11_sharpest_243 h0 hB hX249 _ _ _ _ _ _ _ _ _ hf
def w_X11_sharpest_112 (K : Int → Hh → Prop) (X249 : Int → Int → Int → Hh → Prop) (a0 : Int) : Nat → Int → Int → Int → Int → Int → Int → Int → Int → Hh → Prop
  | 0, _, _, _, _, _, _, _, _, _ => False
  | n + 1, v1, v2, v3, v4, v5, v6, v9, v10, h => if v10 > v9 then (X249 v3 v5 v6 h) else (vb (w32 (v4 - 1)) fun z10 => w_X11_sharpest_132 K (fun u19 u20 u21 u22 u23 u24 u25 u26 u27 h18 => if u27 = w32 (((i32 1 <<< (i32 (w32 (u22 + 1)) &&& 31)).toInt) - 2) then (w_X11_widest a0 u19 u20 h18 (fun r28 h29 => if u23 = (-1) then (w_X11_sharpest_235 K (w_X11_sharpest_112 K X249 a0 n) X249 a0 u19 u20 u21 u22 u25 u26 r28 h29) else (if r28 < u24 then (w_X11_sharpest_235 K (w_X11_sharpest_112 K X249 a0 n) X249 a0 u19 u20 u21 u22 u25 u26 r28 h29) else (w_X11_sharpest_243 K (w_X11_sharpest_112 K X249 a0 n) X249 a0 u19 u20 u21 u22 u23 u24 u25 u26 h29)))) else (w_X11_sharpest_243 K (w_X11_sharpest_112 K X249 a0 n) X249 a0 u19 u20 u21 u22 u23 u24 u25 u26 h18)) a0 NF v1 v2 v3 v4 v5 v6 v9 v10 v10 0 z10 h)
set_option maxRecDepth 100000 in
set_option maxHeartbeats 4000000 in
theorem t_X11_sharpest_112 {G : Gx} {n0 : Int} {K : Int → Hh → Prop} {X249 : Int → Int → Int → Hh → Prop} {a0 : Int} (h0 : 0 ≤ a0) (hX249 : ∀ (v3 v5 v6 : Int) (h : Hh), X249 v3 v5 v6 h → PW G M_X11_sharpest rm_X11_sharpest 0 0 [] n0 K 249 [(3, vi v3), (5, vi v5), (6, vl v6)] [] [] 0 0 h) : ∀ (n : Nat) (v1 v2 v3 v4 v5 v6 v9 v10 : Int) (h : Hh), w_X11_sharpest_112 K X249 a0 n v1 v2 v3 v4 v5 v6 v9 v10 h → PW G M_X11_sharpest rm_X11_sharpest 0 0 [] n0 K 112 [(0, vr 11 a0 0), (1, vi v1), (2, vi v2), (3, vi v3), (4, vi v4), (5, vi v5), (6, vl v6), (9, vi v9), (10, vi v10)] [] [] 0 0 h := by
  intro n
  induction n with
  | zero =>
    intro v1 v2 v3 v4 v5 v6 v9 v10 h hf
    rw [w_X11_sharpest_112] at hf
    exact hf.elim
  | succ n ih =>
    intro v1 v2 v3 v4 v5 v6 v9 v10 h hf
    rw [w_X11_sharpest_112] at hf
    refine p_iload dX11_sharpest_112 8 rfl ?_
    refine p_iload dX11_sharpest_114 7 rfl ?_
    refine p_icmp_gt (tgt := 249) (q := v10 > v9) dX11_sharpest_116 (by decide) Iff.rfl (fun hc => ?_) (fun hc => ?_)
    · replace hf := Eq.mp (if_pos hc) hf
      refine p_sub (ls' := [(3, vi v3), (5, vi v5), (6, vl v6)]) [3, 5, 6] rfl ?_
      exact hX249 _ _ _ _ hf
    · replace hf := Eq.mp (if_neg hc) hf
      refine p_iload dX11_sharpest_119 8 rfl ?_
      refine p_istore (ls' := [(11, vi v10), (0, vr 11 a0 0), (1, vi v1), (2, vi v2), (3, vi v3), (4, vi v4), (5, vi v5), (6, vl v6), (9, vi v9), (10, vi v10)]) dX11_sharpest_121 (by decide) rfl ?_
      refine p_iconst dX11_sharpest_123 (by decide) ?_
      refine p_istore (ls' := [(12, vi 0), (11, vi v10), (0, vr 11 a0 0), (1, vi v1), (2, vi v2), (3, vi v3), (4, vi v4), (5, vi v5), (6, vl v6), (9, vi v9), (10, vi v10)]) dX11_sharpest_124 (by decide) rfl ?_
      refine p_iload dX11_sharpest_126 6 rfl ?_
      refine p_iconst dX11_sharpest_128 (by decide) ?_
      refine p_isub dX11_sharpest_129 ?_
      refine p_istore (ls' := [(13, vi (w32 (v4 - 1))), (12, vi 0), (11, vi v10), (0, vr 11 a0 0), (1, vi v1), (2, vi v2), (3, vi v3), (4, vi v4), (5, vi v5), (6, vl v6), (9, vi v9), (10, vi v10)]) dX11_sharpest_130 (by decide) rfl ?_
      replace hf := vb_e hf
      generalize (w32 (v4 - 1)) = z10 at hf ⊢
      refine p_sub (ls' := [(0, vr 11 a0 0), (1, vi v1), (2, vi v2), (3, vi v3), (4, vi v4), (5, vi v5), (6, vl v6), (9, vi v9), (10, vi v10), (11, vi v10), (12, vi 0), (13, vi z10)]) [3, 4, 5, 6, 7, 8, 9, 10, 11, 2, 1, 0] rfl ?_
      refine t_X11_sharpest_132 h0 ?_ NF _ _ _ _ _ _ _ _ _ _ _ _ hf
      · intro u19 u20 u21 u22 u23 u24 u25 u26 u27 h18 hf
        refine p_iload dX11_sharpest_194 9 rfl ?_
        refine p_iconst dX11_sharpest_196 (by decide) ?_
        refine p_iload dX11_sharpest_197 4 rfl ?_
        refine p_iconst dX11_sharpest_199 (by decide) ?_
        refine p_iadd dX11_sharpest_200 ?_
        refine p_ishl dX11_sharpest_201 ?_
        refine p_iconst dX11_sharpest_202 (by decide) ?_
        refine p_isub dX11_sharpest_203 ?_
        refine p_icmp_eq (tgt := 210) (q := u27 = w32 (((i32 1 <<< (i32 (w32 (u22 + 1)) &&& 31)).toInt) - 2)) dX11_sharpest_204 (by decide) Iff.rfl (fun hc => ?_) (fun hc => ?_)
        · replace hf := Eq.mp (if_pos hc) hf
          refine p_aload_n dX11_sharpest_210 rfl 0 rfl ?_
          refine p_iload_n dX11_sharpest_211 rfl 1 rfl ?_
          refine p_iload_n dX11_sharpest_212 rfl 2 rfl ?_
          refine p_callVl dX11_sharpest_213 M_X11_widest rfl [vi u19, vi u20] (t_X11_widest _ _ _ _ _ h0 hf) ok_X11_widest rfl (c := 11) (by decide) h0 rfl tb_1248 ⟨tb_1250, ts_93⟩ rfl (Nat.le_of_ble_eq_true rfl) ⟨rfl, rfl⟩ ⟨by decide, by decide⟩ ⟨by decide, by decide⟩ (fun r28 h29 hf => ?_)
          refine p_lstore (ls' := [(13, vl r28), (0, vr 11 a0 0), (1, vi u19), (2, vi u20), (3, vi u21), (4, vi u22), (5, vi u23), (6, vl u24), (9, vi u25), (10, vi u26), (12, vi u27)]) dX11_sharpest_216 (by decide) rfl ?_
          refine p_iload dX11_sharpest_218 6 rfl ?_
          refine p_iconst dX11_sharpest_220 (by decide) ?_
          refine p_icmp_eq (tgt := 235) (q := u23 = (-1)) dX11_sharpest_221 (by decide) Iff.rfl (fun hc => ?_) (fun hc => ?_)
          · replace hf := Eq.mp (if_pos hc) hf
            refine p_sub (ls' := [(0, vr 11 a0 0), (1, vi u19), (2, vi u20), (3, vi u21), (4, vi u22), (9, vi u25), (10, vi u26), (13, vl r28)]) [1, 2, 3, 4, 5, 8, 9, 0] rfl ?_
            exact t_X11_sharpest_235 h0 ih hX249 _ _ _ _ _ _ _ _ hf
          · replace hf := Eq.mp (if_neg hc) hf
            refine p_lload dX11_sharpest_224 0 rfl ?_
            refine p_lload dX11_sharpest_226 7 rfl ?_
            refine p_lcmp (z := (if r28 < u24 then (-1) else if r28 = u24 then 0 else 1)) dX11_sharpest_228 rfl ?_
            refine p_if_lt (tgt := 235) (q := r28 < u24) dX11_sharpest_229 (by decide) (lc_lt r28 u24) (fun hc => ?_) (fun hc => ?_)
            · replace hf := Eq.mp (if_pos hc) hf
              refine p_sub (ls' := [(0, vr 11 a0 0), (1, vi u19), (2, vi u20), (3, vi u21), (4, vi u22), (9, vi u25), (10, vi u26), (13, vl r28)]) [1, 2, 3, 4, 5, 8, 9, 0] rfl ?_
              exact t_X11_sharpest_235 h0 ih hX249 _ _ _ _ _ _ _ _ hf
            · replace hf := Eq.mp (if_neg hc) hf
              refine p_goto (tgt := 243) dX11_sharpest_232 (by decide) ?_
              refine p_sub (ls' := [(0, vr 11 a0 0), (1, vi u19), (2, vi u20), (3, vi u21), (4, vi u22), (5, vi u23), (6, vl u24), (9, vi u25), (10, vi u26)]) [1, 2, 3, 4, 5, 6, 7, 8, 9] rfl ?_
              exact t_X11_sharpest_243 h0 ih hX249 _ _ _ _ _ _ _ _ _ hf
        · replace hf := Eq.mp (if_neg hc) hf
          refine p_goto (tgt := 243) dX11_sharpest_207 (by decide) ?_
          refine p_sub (ls' := [(0, vr 11 a0 0), (1, vi u19), (2, vi u20), (3, vi u21), (4, vi u22), (5, vi u23), (6, vl u24), (9, vi u25), (10, vi u26)]) [0, 1, 2, 3, 4, 5, 6, 7, 8] rfl ?_
          exact t_X11_sharpest_243 h0 ih hX249 _ _ _ _ _ _ _ _ _ hf
def w_X11_sharpest_261 (K : Int → Hh → Prop) (a0 : Int) (s0 : Int) (h : Hh) : Prop := K s0 h
set_option maxRecDepth 100000 in
set_option maxHeartbeats 4000000 in
theorem t_X11_sharpest_261 {G : Gx} {n0 : Int} {K : Int → Hh → Prop} {a0 : Int} (h0 : 0 ≤ a0)  (s0 : Int) (h : Hh) (hf : w_X11_sharpest_261 K  a0 s0 h) : PW G M_X11_sharpest rm_X11_sharpest 0 0 [] n0 K 261 [] [vi s0] [] 0 0 h := by
  unfold w_X11_sharpest_261 at hf
  exact p_iret dX11_sharpest_261 rfl (by decide) (by decide) (fun _ h => absurd h List.not_mem_nil) hf
def w_X11_sharpest_106 (K : Int → Hh → Prop) (a0 : Int) (v1 v2 v3 v4 v5 v6 v8 s0 : Int) (h : Hh) : Prop := w_X11_sharpest_112 K (fun u32 u33 u34 h31 => if u32 ≠ 0 then (w_X11_sharpest_261 K  a0 (w32 u34) h31) else (w_X11_sharpest_261 K  a0 u33 h31)) a0 NF v1 v2 v3 v4 v5 v6 s0 v8 h
set_option maxRecDepth 100000 in
set_option maxHeartbeats 4000000 in
theorem t_X11_sharpest_106 {G : Gx} {n0 : Int} {K : Int → Hh → Prop} {a0 : Int} (h0 : 0 ≤ a0)  (v1 v2 v3 v4 v5 v6 v8 s0 : Int) (h : Hh) (hf : w_X11_sharpest_106 K  a0 v1 v2 v3 v4 v5 v6 v8 s0 h) : PW G M_X11_sharpest rm_X11_sharpest 0 0 [] n0 K 106 [(0, vr 11 a0 0), (1, vi v1), (2, vi v2), (3, vi v3), (4, vi v4), (5, vi v5), (6, vl v6), (8, vi v8)] [vi s0] [] 0 0 h := by
  unfold w_X11_sharpest_106 at hf
  refine p_istore (ls' := [(9, vi s0), (0, vr 11 a0 0), (1, vi v1), (2, vi v2), (3, vi v3), (4, vi v4), (5, vi v5), (6, vl v6), (8, vi v8)]) dX11_sharpest_106 (by decide) rfl ?_
  refine p_iload dX11_sharpest_108 8 rfl ?_
  refine p_istore (ls' := [(10, vi v8), (9, vi s0), (0, vr 11 a0 0), (1, vi v1), (2, vi v2), (3, vi v3), (4, vi v4), (5, vi v5), (6, vl v6), (8, vi v8)]) dX11_sharpest_110 (by decide) rfl ?_
  refine p_sub (ls' := [(0, vr 11 a0 0), (1, vi v1), (2, vi v2), (3, vi v3), (4, vi v4), (5, vi v5), (6, vl v6), (9, vi s0), (10, vi v8)]) [2, 3, 4, 5, 6, 7, 8, 1, 0] rfl ?_
  refine t_X11_sharpest_112 h0 ?_ NF _ _ _ _ _ _ _ _ _ hf
  · intro u32 u33 u34 h31 hf
    refine p_iload_n dX11_sharpest_249 rfl 0 rfl ?_
    refine p_if_ne (tgt := 258) (q := u32 ≠ 0) dX11_sharpest_250 (by decide) Iff.rfl (fun hc => ?_) (fun hc => ?_)
    · replace hf := Eq.mp (if_pos hc) hf
      refine p_lload dX11_sharpest_258 2 rfl ?_
      refine p_l2i dX11_sharpest_260 ?_
      refine p_sub (ls' := []) [] rfl ?_
      exact t_X11_sharpest_261 h0  _ _ hf
    · replace hf := Eq.mp (if_neg hc) hf
      refine p_iload dX11_sharpest_253 1 rfl ?_
      refine p_goto (tgt := 261) dX11_sharpest_255 (by decide) ?_
      refine p_sub (ls' := []) [] rfl ?_
      exact t_X11_sharpest_261 h0  _ _ hf
def w_X11_sharpest_78 (K : Int → Hh → Prop) (a0 : Int) (v1 v2 v3 v4 v5 v6 s0 : Int) (h : Hh) : Prop := if v4 ≠ 2 then (if v4 ≠ 3 then (w_X11_sharpest_106 K  a0 v1 v2 v3 v4 v5 v6 s0 4321 h) else (w_X11_sharpest_106 K  a0 v1 v2 v3 v4 v5 v6 s0 321 h)) else (w_X11_sharpest_106 K  a0 v1 v2 v3 v4 v5 v6 s0 21 h)
set_option maxRecDepth 100000 in
set_option maxHeartbeats 4000000 in
theorem t_X11_sharpest_78 {G : Gx} {n0 : Int} {K : Int → Hh → Prop} {a0 : Int} (h0 : 0 ≤ a0)  (v1 v2 v3 v4 v5 v6 s0 : Int) (h : Hh) (hf : w_X11_sharpest_78 K  a0 v1 v2 v3 v4 v5 v6 s0 h) : PW G M_X11_sharpest rm_X11_sharpest 0 0 [] n0 K 78 [(0, vr 11 a0 0), (1, vi v1), (2, vi v2), (3, vi v3), (4, vi v4), (5, vi v5), (6, vl v6)] [vi s0] [] 0 0 h := by
  unfold w_X11_sharpest_78 at hf
  refine p_istore (ls' := [(8, vi s0), (0, vr 11 a0 0), (1, vi v1), (2, vi v2), (3, vi v3), (4, vi v4), (5, vi v5), (6, vl v6)]) dX11_sharpest_78 (by decide) rfl ?_
  refine p_iload dX11_sharpest_80 5 rfl ?_
  refine p_iconst dX11_sharpest_82 (by decide) ?_
  refine p_icmp_ne (tgt := 91) (q := v4 ≠ 2) dX11_sharpest_83 (by decide) Iff.rfl (fun hc => ?_) (fun hc => ?_)
  · replace hf := Eq.mp (if_pos hc) hf
    refine p_iload dX11_sharpest_91 5 rfl ?_
    refine p_iconst dX11_sharpest_93 (by decide) ?_
    refine p_icmp_ne (tgt := 103) (q := v4 ≠ 3) dX11_sharpest_94 (by decide) Iff.rfl (fun hc => ?_) (fun hc => ?_)
    · replace hf := Eq.mp (if_pos hc) hf
      refine p_sipush dX11_sharpest_103 (by decide) (by decide) ?_
      refine p_sub (ls' := [(0, vr 11 a0 0), (1, vi v1), (2, vi v2), (3, vi v3), (4, vi v4), (5, vi v5), (6, vl v6), (8, vi s0)]) [1, 2, 3, 4, 5, 6, 7, 0] rfl ?_
      exact t_X11_sharpest_106 h0  _ _ _ _ _ _ _ _ _ hf
    · replace hf := Eq.mp (if_neg hc) hf
      refine p_sipush dX11_sharpest_97 (by decide) (by decide) ?_
      refine p_goto (tgt := 106) dX11_sharpest_100 (by decide) ?_
      refine p_sub (ls' := [(0, vr 11 a0 0), (1, vi v1), (2, vi v2), (3, vi v3), (4, vi v4), (5, vi v5), (6, vl v6), (8, vi s0)]) [1, 2, 3, 4, 5, 6, 7, 0] rfl ?_
      exact t_X11_sharpest_106 h0  _ _ _ _ _ _ _ _ _ hf
  · replace hf := Eq.mp (if_neg hc) hf
    refine p_bipush dX11_sharpest_86 (by decide) (by decide) ?_
    refine p_goto (tgt := 106) dX11_sharpest_88 (by decide) ?_
    refine p_sub (ls' := [(0, vr 11 a0 0), (1, vi v1), (2, vi v2), (3, vi v3), (4, vi v4), (5, vi v5), (6, vl v6), (8, vi s0)]) [1, 2, 3, 4, 5, 6, 7, 0] rfl ?_
    exact t_X11_sharpest_106 h0  _ _ _ _ _ _ _ _ _ hf
def w_X11_sharpest (a0 x1 x2 x3 : Int) (h : Hh) (K : Int → Hh → Prop) : Prop := w_X11_isChart a0 x1 h (fun r1 h2 => if r1 = 0 then (w_X11_sharpest_30 K  a0  h2) else (w_X11_in x2 0 50 h2 (fun r3 h4 => if r3 = 0 then (w_X11_sharpest_30 K  a0  h4) else (w_X11_in x3 0 1 h4 (fun r5 h6 => if r5 ≠ 0 then (((0 : Int) ≤ x1 ∧ (x1 : Int) < 6) ∧ (((0 : Int) ≤ h6 (a0 + 11) x1 ∧ (h6 (a0 + 11) x1 : Int) < 6) ∧ (vb (w32 ((h6 (a0 + 5) (h6 (a0 + 11) x1)) - 1)) fun z9 => if z9 ≠ 2 then (if z9 ≠ 3 then (w_X11_sharpest_78 K  a0 x1 x2 x3 z9 (-1) 0 1234 h6) else (w_X11_sharpest_78 K  a0 x1 x2 x3 z9 (-1) 0 123 h6)) else (w_X11_sharpest_78 K  a0 x1 x2 x3 z9 (-1) 0 12 h6)))) else (w_X11_sharpest_30 K  a0  h6))))))
set_option maxRecDepth 100000 in
set_option maxHeartbeats 4000000 in
theorem t_X11_sharpest {G : Gx} (a0 x1 x2 x3 : Int) (h : Hh) (K : Int → Hh → Prop) (h0 : 0 ≤ a0) (hf : w_X11_sharpest a0 x1 x2 x3 h K) : CT G M_X11_sharpest rm_X11_sharpest 0 0 [] [vr 11 a0 0, vi x1, vi x2, vi x3] h K := by
  unfold w_X11_sharpest at hf
  refine CT.of (ls0 := [(0, vr 11 a0 0), (1, vi x1), (2, vi x2), (3, vi x3)]) (plainFor_of_name (by decide +kernel)) (by decide +kernel) (Nat.le_of_ble_eq_true rfl) rfl rfl ?_
  refine p_aload_n dX11_sharpest_0 rfl 0 rfl ?_
  refine p_iload_n dX11_sharpest_1 rfl 1 rfl ?_
  refine p_callVi dX11_sharpest_2 M_X11_isChart (Or.inr rfl) [vi x1] (t_X11_isChart _ _ _ _ h0 hf) ok_X11_isChart rfl (c := 11) (by decide) h0 rfl tb_1165 ⟨tb_1167, ts_81⟩ rfl (Nat.le_of_ble_eq_true rfl) ⟨rfl, rfl⟩ ⟨by decide, by decide⟩ ⟨by decide, by decide⟩ (fun r1 h2 hf => ?_)
  refine p_if_eq (tgt := 30) (q := r1 = 0) dX11_sharpest_5 (by decide) Iff.rfl (fun hc => ?_) (fun hc => ?_)
  · replace hf := Eq.mp (if_pos hc) hf
    refine p_sub (ls' := []) [] rfl ?_
    exact t_X11_sharpest_30 h0   _ hf
  · replace hf := Eq.mp (if_neg hc) hf
    refine p_iload_n dX11_sharpest_8 rfl 2 rfl ?_
    refine p_i2l dX11_sharpest_9 ?_
    refine p_lconst (z := 0) dX11_sharpest_10 rfl ?_
    refine p_ldc2 (z := 50) dX11_sharpest_11 tb_1160 (by decide) ?_
    refine p_callSi dX11_sharpest_14 M_X11_in (Or.inr rfl) [vl x2, vl 0, vl 50] (t_X11_in _ _ _ _ _ hf) ok_X11_in rfl tb_1079 tb_1080 rfl (Nat.le_of_ble_eq_true rfl) ⟨rfl, rfl⟩ ⟨by decide, by decide⟩ ⟨by decide, by decide⟩ (fun r3 h4 hf => ?_)
    refine p_if_eq (tgt := 30) (q := r3 = 0) dX11_sharpest_17 (by decide) Iff.rfl (fun hc => ?_) (fun hc => ?_)
    · replace hf := Eq.mp (if_pos hc) hf
      refine p_sub (ls' := []) [] rfl ?_
      exact t_X11_sharpest_30 h0   _ hf
    · replace hf := Eq.mp (if_neg hc) hf
      refine p_iload_n dX11_sharpest_20 rfl 3 rfl ?_
      refine p_i2l dX11_sharpest_21 ?_
      refine p_lconst (z := 0) dX11_sharpest_22 rfl ?_
      refine p_lconst (z := 1) dX11_sharpest_23 rfl ?_
      refine p_callSi dX11_sharpest_24 M_X11_in (Or.inr rfl) [vl x3, vl 0, vl 1] (t_X11_in _ _ _ _ _ hf) ok_X11_in rfl tb_1079 tb_1080 rfl (Nat.le_of_ble_eq_true rfl) ⟨rfl, rfl⟩ ⟨by decide, by decide⟩ ⟨by decide, by decide⟩ (fun r5 h6 hf => ?_)
      refine p_if_ne (tgt := 32) (q := r5 ≠ 0) dX11_sharpest_27 (by decide) Iff.rfl (fun hc => ?_) (fun hc => ?_)
      · replace hf := Eq.mp (if_pos hc) hf
        refine p_aload_n dX11_sharpest_32 rfl 0 rfl ?_
        refine p_lay (c := 11) (tq := 100) (n := 6) dX11_sharpest_33 12 5 tb_905 (by decide) (by decide) h0 (by decide) (by decide) (fun _ => rfl) (vr 100 (a0 + 5) 6) rfl ?_
        refine p_aload_n dX11_sharpest_36 rfl 0 rfl ?_
        refine p_lay (c := 11) (tq := 100) (n := 6) dX11_sharpest_37 19 11 tb_912 (by decide) (by decide) h0 (by decide) (by decide) (fun _ => rfl) (vr 100 (a0 + 11) 6) rfl ?_
        refine p_iload_n dX11_sharpest_40 rfl 1 rfl ?_
        obtain ⟨c7, hf⟩ := hf
        refine p_iald dX11_sharpest_41 (nnk h0 (by decide)) c7 ?_
        obtain ⟨c8, hf⟩ := hf
        refine p_iald dX11_sharpest_42 (nnk h0 (by decide)) c8 ?_
        refine p_iconst dX11_sharpest_43 (by decide) ?_
        refine p_isub dX11_sharpest_44 ?_
        refine p_istore (ls' := [(4, vi (w32 ((h6 (a0 + 5) (h6 (a0 + 11) x1)) - 1))), (0, vr 11 a0 0), (1, vi x1), (2, vi x2), (3, vi x3)]) dX11_sharpest_45 (by decide) rfl ?_
        replace hf := vb_e hf
        generalize (w32 ((h6 (a0 + 5) (h6 (a0 + 11) x1)) - 1)) = z9 at hf ⊢
        refine p_iconst dX11_sharpest_47 (by decide) ?_
        refine p_istore (ls' := [(5, vi (-1)), (4, vi z9), (0, vr 11 a0 0), (1, vi x1), (2, vi x2), (3, vi x3)]) dX11_sharpest_48 (by decide) rfl ?_
        refine p_lconst (z := 0) dX11_sharpest_50 rfl ?_
        refine p_lstore (ls' := [(6, vl 0), (5, vi (-1)), (4, vi z9), (0, vr 11 a0 0), (1, vi x1), (2, vi x2), (3, vi x3)]) dX11_sharpest_51 (by decide) rfl ?_
        refine p_iload dX11_sharpest_53 2 rfl ?_
        refine p_iconst dX11_sharpest_55 (by decide) ?_
        refine p_icmp_ne (tgt := 64) (q := z9 ≠ 2) dX11_sharpest_56 (by decide) Iff.rfl (fun hc => ?_) (fun hc => ?_)
        · replace hf := Eq.mp (if_pos hc) hf
          refine p_iload dX11_sharpest_64 2 rfl ?_
          refine p_iconst dX11_sharpest_66 (by decide) ?_
          refine p_icmp_ne (tgt := 75) (q := z9 ≠ 3) dX11_sharpest_67 (by decide) Iff.rfl (fun hc => ?_) (fun hc => ?_)
          · replace hf := Eq.mp (if_pos hc) hf
            refine p_sipush dX11_sharpest_75 (by decide) (by decide) ?_
            refine p_sub (ls' := [(0, vr 11 a0 0), (1, vi x1), (2, vi x2), (3, vi x3), (4, vi z9), (5, vi (-1)), (6, vl 0)]) [3, 4, 5, 6, 2, 1, 0] rfl ?_
            exact t_X11_sharpest_78 h0  _ _ _ _ _ _ _ _ hf
          · replace hf := Eq.mp (if_neg hc) hf
            refine p_bipush dX11_sharpest_70 (by decide) (by decide) ?_
            refine p_goto (tgt := 78) dX11_sharpest_72 (by decide) ?_
            refine p_sub (ls' := [(0, vr 11 a0 0), (1, vi x1), (2, vi x2), (3, vi x3), (4, vi z9), (5, vi (-1)), (6, vl 0)]) [3, 4, 5, 6, 2, 1, 0] rfl ?_
            exact t_X11_sharpest_78 h0  _ _ _ _ _ _ _ _ hf
        · replace hf := Eq.mp (if_neg hc) hf
          refine p_bipush dX11_sharpest_59 (by decide) (by decide) ?_
          refine p_goto (tgt := 78) dX11_sharpest_61 (by decide) ?_
          refine p_sub (ls' := [(0, vr 11 a0 0), (1, vi x1), (2, vi x2), (3, vi x3), (4, vi z9), (5, vi (-1)), (6, vl 0)]) [3, 4, 5, 6, 2, 1, 0] rfl ?_
          exact t_X11_sharpest_78 h0  _ _ _ _ _ _ _ _ hf
      · replace hf := Eq.mp (if_neg hc) hf
        refine p_sub (ls' := []) [] rfl ?_
        exact t_X11_sharpest_30 h0   _ hf
theorem ok_X11_sharpest : mOK M_X11_sharpest 3 := ⟨tb_1247, tb_9, by decide +kernel⟩
abbrev M_X11_holds : MD := (yX11_holds, cX11_holds, 3, none)
abbrev rm_X11_holds : Room := { frames := 0, cells := 0, slots := 0, locals := 0 }
def w_X11_holds_28 (K : Int → Hh → Prop) (a0 : Int) (h : Hh) : Prop := K 0 h
set_option maxRecDepth 100000 in
set_option maxHeartbeats 4000000 in
theorem t_X11_holds_28 {G : Gx} {n0 : Int} {K : Int → Hh → Prop} {a0 : Int} (h0 : 0 ≤ a0)  (h : Hh) (hf : w_X11_holds_28 K  a0  h) : PW G M_X11_holds rm_X11_holds 0 0 [] n0 K 28 [] [] [] 0 0 h := by
  unfold w_X11_holds_28 at hf
  exact p_vret dX11_holds_28 rfl (by decide) (by decide) (fun _ h => absurd h List.not_mem_nil) hf
def w_X11_holds_14 (K : Int → Hh → Prop) (a0 : Int) (v1 : Int) (h : Hh) : Prop := if v1 ≤ h a0 53 then (w_X11_holds_28 K  a0  h) else (hb (up h a0 53 v1) fun h1 => w_X11_holds_28 K  a0  h1)
set_option maxRecDepth 100000 in
set_option maxHeartbeats 4000000 in
theorem t_X11_holds_14 {G : Gx} {n0 : Int} {K : Int → Hh → Prop} {a0 : Int} (h0 : 0 ≤ a0)  (v1 : Int) (h : Hh) (hf : w_X11_holds_14 K  a0 v1 h) : PW G M_X11_holds rm_X11_holds 0 0 [] n0 K 14 [(0, vr 11 a0 0), (1, vl v1)] [] [] 0 0 h := by
  unfold w_X11_holds_14 at hf
  refine p_lload_n dX11_holds_14 rfl 1 rfl ?_
  refine p_aload_n dX11_holds_15 rfl 0 rfl ?_
  refine p_get (c := 11) (vl (h a0 53)) dX11_holds_16 53 tb_946 (by decide) (by decide) (Or.inl rfl) h0 rfl rfl ?_
  refine p_lcmp (z := (if v1 < h a0 53 then (-1) else if v1 = h a0 53 then 0 else 1)) dX11_holds_19 rfl ?_
  refine p_if_le (tgt := 28) (q := v1 ≤ h a0 53) dX11_holds_20 (by decide) (lc_le v1 (h a0 53)) (fun hc => ?_) (fun hc => ?_)
  · replace hf := Eq.mp (if_pos hc) hf
    refine p_sub (ls' := []) [] rfl ?_
    exact t_X11_holds_28 h0   _ hf
  · replace hf := Eq.mp (if_neg hc) hf
    refine p_aload_n dX11_holds_23 rfl 0 rfl ?_
    refine p_lload_n dX11_holds_24 rfl 1 rfl ?_
    refine p_putl (c := 11) dX11_holds_25 53 tb_946 (by decide) (by decide) (Or.inl rfl) h0 rfl rfl (fun _ => by decide) (up h a0 53 v1) rfl ?_
    replace hf := hb_e hf
    generalize up h a0 53 v1 = h1 at hf ⊢
    refine p_sub (ls' := []) [] rfl ?_
    exact t_X11_holds_28 h0   _ hf
def w_X11_holds (a0 x1 : Int) (h : Hh) (K : Int → Hh → Prop) : Prop := if x1 ≥ h a0 52 then (w_X11_holds_14 K  a0 x1 h) else (hb (up h a0 52 x1) fun h2 => w_X11_holds_14 K  a0 x1 h2)
set_option maxRecDepth 100000 in
set_option maxHeartbeats 4000000 in
theorem t_X11_holds {G : Gx} (a0 x1 : Int) (h : Hh) (K : Int → Hh → Prop) (h0 : 0 ≤ a0) (hf : w_X11_holds a0 x1 h K) : CT G M_X11_holds rm_X11_holds 0 0 [] [vr 11 a0 0, vl x1] h K := by
  unfold w_X11_holds at hf
  refine CT.of (ls0 := [(0, vr 11 a0 0), (1, vl x1)]) (plainFor_of_name (by decide +kernel)) (by decide +kernel) (Nat.le_of_ble_eq_true rfl) rfl rfl ?_
  refine p_lload_n dX11_holds_0 rfl 1 rfl ?_
  refine p_aload_n dX11_holds_1 rfl 0 rfl ?_
  refine p_get (c := 11) (vl (h a0 52)) dX11_holds_2 52 tb_945 (by decide) (by decide) (Or.inl rfl) h0 rfl rfl ?_
  refine p_lcmp (z := (if x1 < h a0 52 then (-1) else if x1 = h a0 52 then 0 else 1)) dX11_holds_5 rfl ?_
  refine p_if_ge (tgt := 14) (q := x1 ≥ h a0 52) dX11_holds_6 (by decide) (lc_ge x1 (h a0 52)) (fun hc => ?_) (fun hc => ?_)
  · replace hf := Eq.mp (if_pos hc) hf
    exact t_X11_holds_14 h0  _ _ hf
  · replace hf := Eq.mp (if_neg hc) hf
    refine p_aload_n dX11_holds_9 rfl 0 rfl ?_
    refine p_lload_n dX11_holds_10 rfl 1 rfl ?_
    refine p_putl (c := 11) dX11_holds_11 52 tb_945 (by decide) (by decide) (Or.inl rfl) h0 rfl rfl (fun _ => by decide) (up h a0 52 x1) rfl ?_
    replace hf := hb_e hf
    generalize up h a0 52 x1 = h2 at hf ⊢
    exact t_X11_holds_14 h0  _ _ hf
theorem ok_X11_holds : mOK M_X11_holds 1 := ⟨tb_1265, tb_9, by decide +kernel⟩
abbrev M_X11_tall : MD := (yX11_tall, cX11_tall, 21, some .long)
abbrev rm_X11_tall : Room := { frames := 2, cells := 0, slots := 0, locals := 46 }
def w_X11_tall_150 (K : Int → Hh → Prop) (B : Int → Int → Int → Int → Int → Int → Int → Int → Int → Int → Int → Int → Hh → Prop) (X156 : Int → Int → Int → Int → Int → Int → Int → Int → Int → Int → Hh → Prop) (a0 : Int) (v1 v2 v3 v5 v7 v8 v10 v12 v13 v14 v16 v18 : Int) (h : Hh) : Prop := vb (w32 (v18 + 1)) fun z12 => B v1 v2 v3 v5 v7 v8 v10 v12 v13 v14 v16 z12 h
set_option maxRecDepth 100000 in
set_option maxHeartbeats 4000000 in
theorem t_X11_tall_150 {G : Gx} {n0 : Int} {K : Int → Hh → Prop} {B : Int → Int → Int → Int → Int → Int → Int → Int → Int → Int → Int → Int → Hh → Prop} {X156 : Int → Int → Int → Int → Int → Int → Int → Int → Int → Int → Hh → Prop} {a0 : Int} (h0 : 0 ≤ a0) (hB : ∀ (v1 v2 v3 v5 v7 v8 v10 v12 v13 v14 v16 v18 : Int) (h : Hh), B v1 v2 v3 v5 v7 v8 v10 v12 v13 v14 v16 v18 h → PW G M_X11_tall rm_X11_tall 0 0 [] n0 K 70 [(0, vr 11 a0 0), (1, vi v1), (2, vi v2), (3, vl v3), (5, vl v5), (7, vi v7), (8, vl v8), (10, vl v10), (12, vi v12), (13, vi v13), (14, vl v14), (16, vl v16), (18, vi v18)] [] [] 0 0 h) (hX156 : ∀ (v1 v2 v3 v5 v7 v8 v10 v12 v14 v16 : Int) (h : Hh), X156 v1 v2 v3 v5 v7 v8 v10 v12 v14 v16 h → PW G M_X11_tall rm_X11_tall 0 0 [] n0 K 156 [(0, vr 11 a0 0), (1, vi v1), (2, vi v2), (3, vl v3), (5, vl v5), (7, vi v7), (8, vl v8), (10, vl v10), (12, vi v12), (14, vl v14), (16, vl v16)] [] [] 0 0 h)  (v1 v2 v3 v5 v7 v8 v10 v12 v13 v14 v16 v18 : Int) (h : Hh) (hf : w_X11_tall_150 K B X156 a0 v1 v2 v3 v5 v7 v8 v10 v12 v13 v14 v16 v18 h) : PW G M_X11_tall rm_X11_tall 0 0 [] n0 K 150 [(0, vr 11 a0 0), (1, vi v1), (2, vi v2), (3, vl v3), (5, vl v5), (7, vi v7), (8, vl v8), (10, vl v10), (12, vi v12), (13, vi v13), (14, vl v14), (16, vl v16), (18, vi v18)] [] [] 0 0 h := by
  unfold w_X11_tall_150 at hf
  refine p_iinc (ls' := [(18, vi (w32 (v18 + 1))), (0, vr 11 a0 0), (1, vi v1), (2, vi v2), (3, vl v3), (5, vl v5), (7, vi v7), (8, vl v8), (10, vl v10), (12, vi v12), (13, vi v13), (14, vl v14), (16, vl v16)]) dX11_tall_150 12 rfl (by decide) rfl ?_
  replace hf := vb_e hf
  generalize w32 (v18 + 1) = z12 at hf ⊢
  refine p_goto (tgt := 70) dX11_tall_153 (by decide) ?_
  refine p_sub (ls' := [(0, vr 11 a0 0), (1, vi v1), (2, vi v2), (3, vl v3), (5, vl v5), (7, vi v7), (8, vl v8), (10, vl v10), (12, vi v12), (13, vi v13), (14, vl v14), (16, vl v16), (18, vi z12)]) [1, 2, 3, 4, 5, 6, 7, 8, 9, 10, 11, 12, 0] rfl ?_
  exact hB _ _ _ _ _ _ _ _ _ _ _ _ _ hf
def w_X11_tall_131 (K : Int → Hh → Prop) (B : Int → Int → Int → Int → Int → Int → Int → Int → Int → Int → Int → Int → Hh → Prop) (X156 : Int → Int → Int → Int → Int → Int → Int → Int → Int → Int → Hh → Prop) (a0 : Int) (v1 v2 v3 v5 v7 v8 v10 v12 v13 v14 v18 v19 s0 : Int) (h : Hh) : Prop := if v12 ≠ w32 (v2 + 1) then (w_X11_tall_150 K B X156 a0 v1 v2 v3 v5 v7 v8 v10 v12 v13 v14 s0 v18 h) else (w_X11_holds a0 (w64 (v5 * v19)) h (fun _ h13 => w_X11_tall_150 K B X156 a0 v1 v2 v3 v5 v7 v8 v10 v12 v13 v14 s0 v18 h13))
set_option maxRecDepth 100000 in
set_option maxHeartbeats 4000000 in
theorem t_X11_tall_131 {G : Gx} {n0 : Int} {K : Int → Hh → Prop} {B : Int → Int → Int → Int → Int → Int → Int → Int → Int → Int → Int → Int → Hh → Prop} {X156 : Int → Int → Int → Int → Int → Int → Int → Int → Int → Int → Hh → Prop} {a0 : Int} (h0 : 0 ≤ a0) (hB : ∀ (v1 v2 v3 v5 v7 v8 v10 v12 v13 v14 v16 v18 : Int) (h : Hh), B v1 v2 v3 v5 v7 v8 v10 v12 v13 v14 v16 v18 h → PW G M_X11_tall rm_X11_tall 0 0 [] n0 K 70 [(0, vr 11 a0 0), (1, vi v1), (2, vi v2), (3, vl v3), (5, vl v5), (7, vi v7), (8, vl v8), (10, vl v10), (12, vi v12), (13, vi v13), (14, vl v14), (16, vl v16), (18, vi v18)] [] [] 0 0 h) (hX156 : ∀ (v1 v2 v3 v5 v7 v8 v10 v12 v14 v16 : Int) (h : Hh), X156 v1 v2 v3 v5 v7 v8 v10 v12 v14 v16 h → PW G M_X11_tall rm_X11_tall 0 0 [] n0 K 156 [(0, vr 11 a0 0), (1, vi v1), (2, vi v2), (3, vl v3), (5, vl v5), (7, vi v7), (8, vl v8), (10, vl v10), (12, vi v12), (14, vl v14), (16, vl v16)] [] [] 0 0 h)  (v1 v2 v3 v5 v7 v8 v10 v12 v13 v14 v18 v19 s0 : Int) (h : Hh) (hf : w_X11_tall_131 K B X156 a0 v1 v2 v3 v5 v7 v8 v10 v12 v13 v14 v18 v19 s0 h) : PW G M_X11_tall rm_X11_tall 0 0 [] n0 K 131 [(0, vr 11 a0 0), (1, vi v1), (2, vi v2), (3, vl v3), (5, vl v5), (7, vi v7), (8, vl v8), (10, vl v10), (12, vi v12), (13, vi v13), (14, vl v14), (18, vi v18), (19, vl v19)] [vl s0] [] 0 0 h := by
  unfold w_X11_tall_131 at hf
  refine p_lstore (ls' := [(16, vl s0), (0, vr 11 a0 0), (1, vi v1), (2, vi v2), (3, vl v3), (5, vl v5), (7, vi v7), (8, vl v8), (10, vl v10), (12, vi v12), (13, vi v13), (14, vl v14), (18, vi v18), (19, vl v19)]) dX11_tall_131 (by decide) rfl ?_
  refine p_iload dX11_tall_133 9 rfl ?_
  refine p_iload_n dX11_tall_135 rfl 3 rfl ?_
  refine p_iconst dX11_tall_136 (by decide) ?_
  refine p_iadd dX11_tall_137 ?_
  refine p_icmp_ne (tgt := 150) (q := v12 ≠ w32 (v2 + 1)) dX11_tall_138 (by decide) Iff.rfl (fun hc => ?_) (fun hc => ?_)
  · replace hf := Eq.mp (if_pos hc) hf
    refine p_sub (ls' := [(0, vr 11 a0 0), (1, vi v1), (2, vi v2), (3, vl v3), (5, vl v5), (7, vi v7), (8, vl v8), (10, vl v10), (12, vi v12), (13, vi v13), (14, vl v14), (16, vl s0), (18, vi v18)]) [1, 2, 3, 4, 5, 6, 7, 8, 9, 10, 11, 0, 12] rfl ?_
    exact t_X11_tall_150 h0 hB hX156 _ _ _ _ _ _ _ _ _ _ _ _ _ hf
  · replace hf := Eq.mp (if_neg hc) hf
    refine p_aload_n dX11_tall_141 rfl 1 rfl ?_
    refine p_lload dX11_tall_142 5 rfl ?_
    refine p_lload dX11_tall_144 13 rfl ?_
    refine p_lmul dX11_tall_146 ?_
    refine p_callVv dX11_tall_147 M_X11_holds rfl [vl (w64 (v5 * v19))] (t_X11_holds _ _ _ _ h0 hf) ok_X11_holds rfl (c := 11) (by decide) h0 rfl tb_1262 ⟨tb_1264, ts_95⟩ rfl (Nat.le_of_ble_eq_true rfl) ⟨rfl, rfl⟩ ⟨by decide, by decide⟩ ⟨by decide, by decide⟩ (fun _ h13 hf => ?_)
    refine p_sub (ls' := [(0, vr 11 a0 0), (1, vi v1), (2, vi v2), (3, vl v3), (5, vl v5), (7, vi v7), (8, vl v8), (10, vl v10), (12, vi v12), (13, vi v13), (14, vl v14), (16, vl s0), (18, vi v18)]) [1, 2, 3, 4, 5, 6, 7, 8, 9, 10, 11, 0, 12] rfl ?_
    exact t_X11_tall_150 h0 hB hX156 _ _ _ _ _ _ _ _ _ _ _ _ _ hf
def w_X11_tall_114 (K : Int → Hh → Prop) (B : Int → Int → Int → Int → Int → Int → Int → Int → Int → Int → Int → Int → Hh → Prop) (X156 : Int → Int → Int → Int → Int → Int → Int → Int → Int → Int → Hh → Prop) (a0 : Int) (v1 v2 v3 v5 v7 v8 v10 v12 v13 v16 v18 v19 s0 : Int) (h : Hh) : Prop := if v19 ≤ v16 then (w_X11_tall_131 K B X156 a0 v1 v2 v3 v5 v7 v8 v10 v12 v13 s0 v18 v19 v16 h) else (w_X11_tall_131 K B X156 a0 v1 v2 v3 v5 v7 v8 v10 v12 v13 s0 v18 v19 v19 h)
set_option maxRecDepth 100000 in
set_option maxHeartbeats 4000000 in
theorem t_X11_tall_114 {G : Gx} {n0 : Int} {K : Int → Hh → Prop} {B : Int → Int → Int → Int → Int → Int → Int → Int → Int → Int → Int → Int → Hh → Prop} {X156 : Int → Int → Int → Int → Int → Int → Int → Int → Int → Int → Hh → Prop} {a0 : Int} (h0 : 0 ≤ a0) (hB : ∀ (v1 v2 v3 v5 v7 v8 v10 v12 v13 v14 v16 v18 : Int) (h : Hh), B v1 v2 v3 v5 v7 v8 v10 v12 v13 v14 v16 v18 h → PW G M_X11_tall rm_X11_tall 0 0 [] n0 K 70 [(0, vr 11 a0 0), (1, vi v1), (2, vi v2), (3, vl v3), (5, vl v5), (7, vi v7), (8, vl v8), (10, vl v10), (12, vi v12), (13, vi v13), (14, vl v14), (16, vl v16), (18, vi v18)] [] [] 0 0 h) (hX156 : ∀ (v1 v2 v3 v5 v7 v8 v10 v12 v14 v16 : Int) (h : Hh), X156 v1 v2 v3 v5 v7 v8 v10 v12 v14 v16 h → PW G M_X11_tall rm_X11_tall 0 0 [] n0 K 156 [(0, vr 11 a0 0), (1, vi v1), (2, vi v2), (3, vl v3), (5, vl v5), (7, vi v7), (8, vl v8), (10, vl v10), (12, vi v12), (14, vl v14), (16, vl v16)] [] [] 0 0 h)  (v1 v2 v3 v5 v7 v8 v10 v12 v13 v16 v18 v19 s0 : Int) (h : Hh) (hf : w_X11_tall_114 K B X156 a0 v1 v2 v3 v5 v7 v8 v10 v12 v13 v16 v18 v19 s0 h) : PW G M_X11_tall rm_X11_tall 0 0 [] n0 K 114 [(0, vr 11 a0 0), (1, vi v1), (2, vi v2), (3, vl v3), (5, vl v5), (7, vi v7), (8, vl v8), (10, vl v10), (12, vi v12), (13, vi v13), (16, vl v16), (18, vi v18), (19, vl v19)] [vl s0] [] 0 0 h := by
  unfold w_X11_tall_114 at hf
  refine p_lstore (ls' := [(14, vl s0), (0, vr 11 a0 0), (1, vi v1), (2, vi v2), (3, vl v3), (5, vl v5), (7, vi v7), (8, vl v8), (10, vl v10), (12, vi v12), (13, vi v13), (16, vl v16), (18, vi v18), (19, vl v19)]) dX11_tall_114 (by decide) rfl ?_
  refine p_lload dX11_tall_116 13 rfl ?_
  refine p_lload dX11_tall_118 11 rfl ?_
  refine p_lcmp (z := (if v19 < v16 then (-1) else if v19 = v16 then 0 else 1)) dX11_tall_120 rfl ?_
  refine p_if_le (tgt := 129) (q := v19 ≤ v16) dX11_tall_121 (by decide) (lc_le v19 v16) (fun hc => ?_) (fun hc => ?_)
  · replace hf := Eq.mp (if_pos hc) hf
    refine p_lload dX11_tall_129 11 rfl ?_
    refine p_sub (ls' := [(0, vr 11 a0 0), (1, vi v1), (2, vi v2), (3, vl v3), (5, vl v5), (7, vi v7), (8, vl v8), (10, vl v10), (12, vi v12), (13, vi v13), (14, vl s0), (18, vi v18), (19, vl v19)]) [1, 2, 3, 4, 5, 6, 7, 8, 9, 10, 0, 12, 13] rfl ?_
    exact t_X11_tall_131 h0 hB hX156 _ _ _ _ _ _ _ _ _ _ _ _ _ _ hf
  · replace hf := Eq.mp (if_neg hc) hf
    refine p_lload dX11_tall_124 13 rfl ?_
    refine p_goto (tgt := 131) dX11_tall_126 (by decide) ?_
    refine p_sub (ls' := [(0, vr 11 a0 0), (1, vi v1), (2, vi v2), (3, vl v3), (5, vl v5), (7, vi v7), (8, vl v8), (10, vl v10), (12, vi v12), (13, vi v13), (14, vl s0), (18, vi v18), (19, vl v19)]) [1, 2, 3, 4, 5, 6, 7, 8, 9, 10, 0, 12, 13] rfl ?_
    exact t_X11_tall_131 h0 hB hX156 _ _ _ _ _ _ _ _ _ _ _ _ _ _ hf
def w_X11_tall_70 (K : Int → Hh → Prop) (X156 : Int → Int → Int → Int → Int → Int → Int → Int → Int → Int → Hh → Prop) (a0 : Int) : Nat → Int → Int → Int → Int → Int → Int → Int → Int → Int → Int → Int → Int → Hh → Prop
  | 0, _, _, _, _, _, _, _, _, _, _, _, _, _ => False
  | n + 1, v1, v2, v3, v5, v7, v8, v10, v12, v13, v14, v16, v18, h => ((0 : Int) ≤ w32 ((w32 (5 * v7)) + v13) ∧ (w32 ((w32 (5 * v7)) + v13) : Int) < 30) ∧ (if v18 ≥ h (a0 + 9) (w32 ((w32 (5 * v7)) + v13)) then (X156 v1 v2 v3 v5 v7 v8 v10 v12 v14 v16 h) else (w_X11_signed a0 v7 v13 v18 h (fun r10 h11 => if r10 ≥ v14 then (w_X11_tall_114 K (w_X11_tall_70 K X156 a0 n) X156 a0 v1 v2 v3 v5 v7 v8 v10 v12 v13 v16 v18 r10 v14 h11) else (w_X11_tall_114 K (w_X11_tall_70 K X156 a0 n) X156 a0 v1 v2 v3 v5 v7 v8 v10 v12 v13 v16 v18 r10 r10 h11))))
set_option maxRecDepth 100000 in
set_option maxHeartbeats 4000000 in
theorem t_X11_tall_70 {G : Gx} {n0 : Int} {K : Int → Hh → Prop} {X156 : Int → Int → Int → Int → Int → Int → Int → Int → Int → Int → Hh → Prop} {a0 : Int} (h0 : 0 ≤ a0) (hX156 : ∀ (v1 v2 v3 v5 v7 v8 v10 v12 v14 v16 : Int) (h : Hh), X156 v1 v2 v3 v5 v7 v8 v10 v12 v14 v16 h → PW G M_X11_tall rm_X11_tall 0 0 [] n0 K 156 [(0, vr 11 a0 0), (1, vi v1), (2, vi v2), (3, vl v3), (5, vl v5), (7, vi v7), (8, vl v8), (10, vl v10), (12, vi v12), (14, vl v14), (16, vl v16)] [] [] 0 0 h) : ∀ (n : Nat) (v1 v2 v3 v5 v7 v8 v10 v12 v13 v14 v16 v18 : Int) (h : Hh), w_X11_tall_70 K X156 a0 n v1 v2 v3 v5 v7 v8 v10 v12 v13 v14 v16 v18 h → PW G M_X11_tall rm_X11_tall 0 0 [] n0 K 70 [(0, vr 11 a0 0), (1, vi v1), (2, vi v2), (3, vl v3), (5, vl v5), (7, vi v7), (8, vl v8), (10, vl v10), (12, vi v12), (13, vi v13), (14, vl v14), (16, vl v16), (18, vi v18)] [] [] 0 0 h := by
  intro n
  induction n with
  | zero =>
    intro v1 v2 v3 v5 v7 v8 v10 v12 v13 v14 v16 v18 h hf
    rw [w_X11_tall_70] at hf
    exact hf.elim
  | succ n ih =>
    intro v1 v2 v3 v5 v7 v8 v10 v12 v13 v14 v16 v18 h hf
    rw [w_X11_tall_70] at hf
    refine p_iload dX11_tall_70 12 rfl ?_
    refine p_aload_n dX11_tall_72 rfl 0 rfl ?_
    refine p_lay (c := 11) (tq := 100) (n := 30) dX11_tall_73 16 9 tb_909 (by decide) (by decide) h0 (by decide) (by decide) (fun _ => rfl) (vr 100 (a0 + 9) 30) rfl ?_
    refine p_iconst dX11_tall_76 (by decide) ?_
    refine p_iload dX11_tall_77 5 rfl ?_
    refine p_imul dX11_tall_79 ?_
    refine p_iload dX11_tall_80 9 rfl ?_
    refine p_iadd dX11_tall_82 ?_
    obtain ⟨c9, hf⟩ := hf
    refine p_iald dX11_tall_83 (nnk h0 (by decide)) c9 ?_
    refine p_icmp_ge (tgt := 156) (q := v18 ≥ h (a0 + 9) (w32 ((w32 (5 * v7)) + v13))) dX11_tall_84 (by decide) Iff.rfl (fun hc => ?_) (fun hc => ?_)
    · replace hf := Eq.mp (if_pos hc) hf
      refine p_sub (ls' := [(0, vr 11 a0 0), (1, vi v1), (2, vi v2), (3, vl v3), (5, vl v5), (7, vi v7), (8, vl v8), (10, vl v10), (12, vi v12), (14, vl v14), (16, vl v16)]) [0, 1, 2, 3, 4, 5, 6, 7, 8, 10, 11] rfl ?_
      exact hX156 _ _ _ _ _ _ _ _ _ _ _ hf
    · replace hf := Eq.mp (if_neg hc) hf
      refine p_aload_n dX11_tall_87 rfl 0 rfl ?_
      refine p_iload dX11_tall_88 5 rfl ?_
      refine p_iload dX11_tall_90 9 rfl ?_
      refine p_iload dX11_tall_92 12 rfl ?_
      refine p_callVl dX11_tall_94 M_X11_signed rfl [vi v7, vi v13, vi v18] (t_X11_signed _ _ _ _ _ _ h0 hf) ok_X11_signed rfl (c := 11) (by decide) h0 rfl tb_1240 ⟨tb_1242, ts_92⟩ rfl (Nat.le_of_ble_eq_true rfl) ⟨rfl, rfl⟩ ⟨by decide, by decide⟩ ⟨by decide, by decide⟩ (fun r10 h11 hf => ?_)
      refine p_lstore (ls' := [(19, vl r10), (0, vr 11 a0 0), (1, vi v1), (2, vi v2), (3, vl v3), (5, vl v5), (7, vi v7), (8, vl v8), (10, vl v10), (12, vi v12), (13, vi v13), (14, vl v14), (16, vl v16), (18, vi v18)]) dX11_tall_97 (by decide) rfl ?_
      refine p_lload dX11_tall_99 0 rfl ?_
      refine p_lload dX11_tall_101 11 rfl ?_
      refine p_lcmp (z := (if r10 < v14 then (-1) else if r10 = v14 then 0 else 1)) dX11_tall_103 rfl ?_
      refine p_if_ge (tgt := 112) (q := r10 ≥ v14) dX11_tall_104 (by decide) (lc_ge r10 v14) (fun hc => ?_) (fun hc => ?_)
      · replace hf := Eq.mp (if_pos hc) hf
        refine p_lload dX11_tall_112 11 rfl ?_
        refine p_sub (ls' := [(0, vr 11 a0 0), (1, vi v1), (2, vi v2), (3, vl v3), (5, vl v5), (7, vi v7), (8, vl v8), (10, vl v10), (12, vi v12), (13, vi v13), (16, vl v16), (18, vi v18), (19, vl r10)]) [1, 2, 3, 4, 5, 6, 7, 8, 9, 10, 12, 13, 0] rfl ?_
        exact t_X11_tall_114 h0 ih hX156 _ _ _ _ _ _ _ _ _ _ _ _ _ _ hf
      · replace hf := Eq.mp (if_neg hc) hf
        refine p_lload dX11_tall_107 0 rfl ?_
        refine p_goto (tgt := 114) dX11_tall_109 (by decide) ?_
        refine p_sub (ls' := [(0, vr 11 a0 0), (1, vi v1), (2, vi v2), (3, vl v3), (5, vl v5), (7, vi v7), (8, vl v8), (10, vl v10), (12, vi v12), (13, vi v13), (16, vl v16), (18, vi v18), (19, vl r10)]) [1, 2, 3, 4, 5, 6, 7, 8, 9, 10, 12, 13, 0] rfl ?_
        exact t_X11_tall_114 h0 ih hX156 _ _ _ _ _ _ _ _ _ _ _ _ _ _ hf
def w_X11_tall_180 (K : Int → Hh → Prop) (B : Int → Int → Int → Int → Int → Int → Int → Int → Hh → Prop) (X200 : Int → Int → Int → Int → Hh → Prop) (a0 : Int) (v1 v2 v3 v5 v7 v8 v10 v12 v14 v16 : Int) (h : Hh) : Prop := vb (w64 (v8 + v14)) fun z25 => vb (w64 (v10 + v16)) fun z26 => vb (w32 (v12 + 1)) fun z27 => B v1 v2 v3 v5 v7 z25 z26 z27 h
set_option maxRecDepth 100000 in
set_option maxHeartbeats 4000000 in
theorem t_X11_tall_180 {G : Gx} {n0 : Int} {K : Int → Hh → Prop} {B : Int → Int → Int → Int → Int → Int → Int → Int → Hh → Prop} {X200 : Int → Int → Int → Int → Hh → Prop} {a0 : Int} (h0 : 0 ≤ a0) (hB : ∀ (v1 v2 v3 v5 v7 v8 v10 v12 : Int) (h : Hh), B v1 v2 v3 v5 v7 v8 v10 v12 h → PW G M_X11_tall rm_X11_tall 0 0 [] n0 K 31 [(0, vr 11 a0 0), (1, vi v1), (2, vi v2), (3, vl v3), (5, vl v5), (7, vi v7), (8, vl v8), (10, vl v10), (12, vi v12)] [] [] 0 0 h) (hX200 : ∀ (v3 v5 v8 v10 : Int) (h : Hh), X200 v3 v5 v8 v10 h → PW G M_X11_tall rm_X11_tall 0 0 [] n0 K 200 [(0, vr 11 a0 0), (3, vl v3), (5, vl v5), (8, vl v8), (10, vl v10)] [] [] 0 0 h)  (v1 v2 v3 v5 v7 v8 v10 v12 v14 v16 : Int) (h : Hh) (hf : w_X11_tall_180 K B X200 a0 v1 v2 v3 v5 v7 v8 v10 v12 v14 v16 h) : PW G M_X11_tall rm_X11_tall 0 0 [] n0 K 180 [(0, vr 11 a0 0), (1, vi v1), (2, vi v2), (3, vl v3), (5, vl v5), (7, vi v7), (8, vl v8), (10, vl v10), (12, vi v12), (14, vl v14), (16, vl v16)] [] [] 0 0 h := by
  unfold w_X11_tall_180 at hf
  refine p_lload dX11_tall_180 6 rfl ?_
  refine p_lload dX11_tall_182 9 rfl ?_
  refine p_ladd dX11_tall_184 ?_
  refine p_lstore (ls' := [(8, vl (w64 (v8 + v14))), (0, vr 11 a0 0), (1, vi v1), (2, vi v2), (3, vl v3), (5, vl v5), (7, vi v7), (10, vl v10), (12, vi v12), (14, vl v14), (16, vl v16)]) dX11_tall_185 (by decide) rfl ?_
  replace hf := vb_e hf
  generalize (w64 (v8 + v14)) = z25 at hf ⊢
  refine p_lload dX11_tall_187 7 rfl ?_
  refine p_lload dX11_tall_189 10 rfl ?_
  refine p_ladd dX11_tall_191 ?_
  refine p_lstore (ls' := [(10, vl (w64 (v10 + v16))), (8, vl z25), (0, vr 11 a0 0), (1, vi v1), (2, vi v2), (3, vl v3), (5, vl v5), (7, vi v7), (12, vi v12), (14, vl v14), (16, vl v16)]) dX11_tall_192 (by decide) rfl ?_
  replace hf := vb_e hf
  generalize (w64 (v10 + v16)) = z26 at hf ⊢
  refine p_iinc (ls' := [(12, vi (w32 (v12 + 1))), (10, vl z26), (8, vl z25), (0, vr 11 a0 0), (1, vi v1), (2, vi v2), (3, vl v3), (5, vl v5), (7, vi v7), (14, vl v14), (16, vl v16)]) dX11_tall_194 8 rfl (by decide) rfl ?_
  replace hf := vb_e hf
  generalize w32 (v12 + 1) = z27 at hf ⊢
  refine p_goto (tgt := 31) dX11_tall_197 (by decide) ?_
  refine p_sub (ls' := [(0, vr 11 a0 0), (1, vi v1), (2, vi v2), (3, vl v3), (5, vl v5), (7, vi v7), (8, vl z25), (10, vl z26), (12, vi z27)]) [3, 4, 5, 6, 7, 8, 2, 1, 0] rfl ?_
  exact hB _ _ _ _ _ _ _ _ _ hf
def w_X11_tall_31 (K : Int → Hh → Prop) (X200 : Int → Int → Int → Int → Hh → Prop) (a0 : Int) : Nat → Int → Int → Int → Int → Int → Int → Int → Int → Hh → Prop
  | 0, _, _, _, _, _, _, _, _, _ => False
  | n + 1, v1, v2, v3, v5, v7, v8, v10, v12, h => if v12 > w32 (v2 + 1) then (X200 v3 v5 v8 v10 h) else (((0 : Int) ≤ w32 ((w32 (4 * v1)) + v12) ∧ (w32 ((w32 (4 * v1)) + v12) : Int) < 24) ∧ (vb (h (a0 + 12) (w32 ((w32 (4 * v1)) + v12))) fun z6 => w_X11_signed a0 v7 z6 0 h (fun r7 h8 => w_X11_tall_70 K (fun u15 u16 u17 u18 u19 u20 u21 u22 u23 u24 h14 => if u22 ≠ w32 (u16 + 1) then (w_X11_tall_180 K (w_X11_tall_31 K X200 a0 n) X200 a0 u15 u16 u17 u18 u19 u20 u21 u22 u23 u24 h14) else (w_X11_holds a0 (w64 (u17 * u20)) h14 (fun _ h28 => w_X11_holds a0 (w64 (u17 * u21)) h28 (fun _ h29 => w_X11_tall_180 K (w_X11_tall_31 K X200 a0 n) X200 a0 u15 u16 u17 u18 u19 u20 u21 u22 u23 u24 h29)))) a0 NF v1 v2 v3 v5 v7 v8 v10 v12 z6 r7 r7 0 h8)))
set_option maxRecDepth 100000 in
set_option maxHeartbeats 4000000 in
theorem t_X11_tall_31 {G : Gx} {n0 : Int} {K : Int → Hh → Prop} {X200 : Int → Int → Int → Int → Hh → Prop} {a0 : Int} (h0 : 0 ≤ a0) (hX200 : ∀ (v3 v5 v8 v10 : Int) (h : Hh), X200 v3 v5 v8 v10 h → PW G M_X11_tall rm_X11_tall 0 0 [] n0 K 200 [(0, vr 11 a0 0), (3, vl v3), (5, vl v5), (8, vl v8), (10, vl v10)] [] [] 0 0 h) : ∀ (n : Nat) (v1 v2 v3 v5 v7 v8 v10 v12 : Int) (h : Hh), w_X11_tall_31 K X200 a0 n v1 v2 v3 v5 v7 v8 v10 v12 h → PW G M_X11_tall rm_X11_tall 0 0 [] n0 K 31 [(0, vr 11 a0 0), (1, vi v1), (2, vi v2), (3, vl v3), (5, vl v5), (7, vi v7), (8, vl v8), (10, vl v10), (12, vi v12)] [] [] 0 0 h := by
  intro n
  induction n with
  | zero =>
    intro v1 v2 v3 v5 v7 v8 v10 v12 h hf
    rw [w_X11_tall_31] at hf
    exact hf.elim
  | succ n ih =>
    intro v1 v2 v3 v5 v7 v8 v10 v12 h hf
    rw [w_X11_tall_31] at hf
    refine p_iload dX11_tall_31 8 rfl ?_
    refine p_iload_n dX11_tall_33 rfl 2 rfl ?_
    refine p_iconst dX11_tall_34 (by decide) ?_
    refine p_iadd dX11_tall_35 ?_
    refine p_icmp_gt (tgt := 200) (q := v12 > w32 (v2 + 1)) dX11_tall_36 (by decide) Iff.rfl (fun hc => ?_) (fun hc => ?_)
    · replace hf := Eq.mp (if_pos hc) hf
      refine p_sub (ls' := [(0, vr 11 a0 0), (3, vl v3), (5, vl v5), (8, vl v8), (10, vl v10)]) [0, 3, 4, 6, 7] rfl ?_
      exact hX200 _ _ _ _ _ hf
    · replace hf := Eq.mp (if_neg hc) hf
      refine p_aload_n dX11_tall_39 rfl 0 rfl ?_
      refine p_lay (c := 11) (tq := 100) (n := 24) dX11_tall_40 20 12 tb_913 (by decide) (by decide) h0 (by decide) (by decide) (fun _ => rfl) (vr 100 (a0 + 12) 24) rfl ?_
      refine p_iconst dX11_tall_43 (by decide) ?_
      refine p_iload_n dX11_tall_44 rfl 1 rfl ?_
      refine p_imul dX11_tall_45 ?_
      refine p_iload dX11_tall_46 8 rfl ?_
      refine p_iadd dX11_tall_48 ?_
      obtain ⟨c5, hf⟩ := hf
      refine p_iald dX11_tall_49 (nnk h0 (by decide)) c5 ?_
      refine p_istore (ls' := [(13, vi (h (a0 + 12) (w32 ((w32 (4 * v1)) + v12)))), (0, vr 11 a0 0), (1, vi v1), (2, vi v2), (3, vl v3), (5, vl v5), (7, vi v7), (8, vl v8), (10, vl v10), (12, vi v12)]) dX11_tall_50 (by decide) rfl ?_
      replace hf := vb_e hf
      generalize (h (a0 + 12) (w32 ((w32 (4 * v1)) + v12))) = z6 at hf ⊢
      refine p_aload_n dX11_tall_52 rfl 1 rfl ?_
      refine p_iload dX11_tall_53 6 rfl ?_
      refine p_iload dX11_tall_55 0 rfl ?_
      refine p_iconst dX11_tall_57 (by decide) ?_
      refine p_callVl dX11_tall_58 M_X11_signed rfl [vi v7, vi z6, vi 0] (t_X11_signed _ _ _ _ _ _ h0 hf) ok_X11_signed rfl (c := 11) (by decide) h0 rfl tb_1240 ⟨tb_1242, ts_92⟩ rfl (Nat.le_of_ble_eq_true rfl) ⟨rfl, rfl⟩ ⟨by decide, by decide⟩ ⟨by decide, by decide⟩ (fun r7 h8 hf => ?_)
      refine p_lstore (ls' := [(14, vl r7), (13, vi z6), (0, vr 11 a0 0), (1, vi v1), (2, vi v2), (3, vl v3), (5, vl v5), (7, vi v7), (8, vl v8), (10, vl v10), (12, vi v12)]) dX11_tall_61 (by decide) rfl ?_
      refine p_lload dX11_tall_63 0 rfl ?_
      refine p_lstore (ls' := [(16, vl r7), (14, vl r7), (13, vi z6), (0, vr 11 a0 0), (1, vi v1), (2, vi v2), (3, vl v3), (5, vl v5), (7, vi v7), (8, vl v8), (10, vl v10), (12, vi v12)]) dX11_tall_65 (by decide) rfl ?_
      refine p_iconst dX11_tall_67 (by decide) ?_
      refine p_istore (ls' := [(18, vi 0), (16, vl r7), (14, vl r7), (13, vi z6), (0, vr 11 a0 0), (1, vi v1), (2, vi v2), (3, vl v3), (5, vl v5), (7, vi v7), (8, vl v8), (10, vl v10), (12, vi v12)]) dX11_tall_68 (by decide) rfl ?_
      refine p_sub (ls' := [(0, vr 11 a0 0), (1, vi v1), (2, vi v2), (3, vl v3), (5, vl v5), (7, vi v7), (8, vl v8), (10, vl v10), (12, vi v12), (13, vi z6), (14, vl r7), (16, vl r7), (18, vi 0)]) [4, 5, 6, 7, 8, 9, 10, 11, 12, 3, 2, 1, 0] rfl ?_
      refine t_X11_tall_70 h0 ?_ NF _ _ _ _ _ _ _ _ _ _ _ _ _ hf
      · intro u15 u16 u17 u18 u19 u20 u21 u22 u23 u24 h14 hf
        refine p_iload dX11_tall_156 8 rfl ?_
        refine p_iload_n dX11_tall_158 rfl 2 rfl ?_
        refine p_iconst dX11_tall_159 (by decide) ?_
        refine p_iadd dX11_tall_160 ?_
        refine p_icmp_ne (tgt := 180) (q := u22 ≠ w32 (u16 + 1)) dX11_tall_161 (by decide) Iff.rfl (fun hc => ?_) (fun hc => ?_)
        · replace hf := Eq.mp (if_pos hc) hf
          exact t_X11_tall_180 h0 ih hX200 _ _ _ _ _ _ _ _ _ _ _ hf
        · replace hf := Eq.mp (if_neg hc) hf
          refine p_aload_n dX11_tall_164 rfl 0 rfl ?_
          refine p_lload_n dX11_tall_165 rfl 3 rfl ?_
          refine p_lload dX11_tall_166 6 rfl ?_
          refine p_lmul dX11_tall_168 ?_
          refine p_callVv dX11_tall_169 M_X11_holds rfl [vl (w64 (u17 * u20))] (t_X11_holds _ _ _ _ h0 hf) ok_X11_holds rfl (c := 11) (by decide) h0 rfl tb_1262 ⟨tb_1264, ts_95⟩ rfl (Nat.le_of_ble_eq_true rfl) ⟨rfl, rfl⟩ ⟨by decide, by decide⟩ ⟨by decide, by decide⟩ (fun _ h28 hf => ?_)
          refine p_aload_n dX11_tall_172 rfl 0 rfl ?_
          refine p_lload_n dX11_tall_173 rfl 3 rfl ?_
          refine p_lload dX11_tall_174 7 rfl ?_
          refine p_lmul dX11_tall_176 ?_
          refine p_callVv dX11_tall_177 M_X11_holds rfl [vl (w64 (u17 * u21))] (t_X11_holds _ _ _ _ h0 hf) ok_X11_holds rfl (c := 11) (by decide) h0 rfl tb_1262 ⟨tb_1264, ts_95⟩ rfl (Nat.le_of_ble_eq_true rfl) ⟨rfl, rfl⟩ ⟨by decide, by decide⟩ ⟨by decide, by decide⟩ (fun _ h29 hf => ?_)
          exact t_X11_tall_180 h0 ih hX200 _ _ _ _ _ _ _ _ _ _ _ hf
def w_X11_tall (a0 x1 x2 x3 x5 : Int) (h : Hh) (K : Int → Hh → Prop) : Prop := ((0 : Int) ≤ x1 ∧ (x1 : Int) < 6) ∧ (vb (h (a0 + 11) x1) fun z2 => hb (up h a0 52 9000000000000000000) fun h3 => hb (up h3 a0 53 (-9000000000000000000)) fun h4 => w_X11_tall_31 K (fun u31 u32 u33 u34 h30 => w_X11_nearest (w64 ((w64 (u33 * u31)) * u32)) (w64 (u31 + u32)) h30 (fun r35 h36 => w_X11_holds a0 r35 h36 (fun _ h37 => w_X11_nearest (w64 ((w64 (u34 * u31)) * u32)) (w64 (u31 + u32)) h37 (fun r38 h39 => w_X11_holds a0 r38 h39 (fun _ h40 => K (w64 ((h40 a0 53) - (h40 a0 52))) h40))))) a0 NF x1 x2 x3 x5 z2 0 0 0 h4)
set_option maxRecDepth 100000 in
set_option maxHeartbeats 4000000 in
theorem t_X11_tall {G : Gx} (a0 x1 x2 x3 x5 : Int) (h : Hh) (K : Int → Hh → Prop) (h0 : 0 ≤ a0) (hf : w_X11_tall a0 x1 x2 x3 x5 h K) : CT G M_X11_tall rm_X11_tall 0 0 [] [vr 11 a0 0, vi x1, vi x2, vl x3, vl x5] h K := by
  unfold w_X11_tall at hf
  refine CT.of (ls0 := [(0, vr 11 a0 0), (1, vi x1), (2, vi x2), (3, vl x3), (5, vl x5)]) (plainFor_of_name (by decide +kernel)) (by decide +kernel) (Nat.le_of_ble_eq_true rfl) rfl rfl ?_
  refine p_aload_n dX11_tall_0 rfl 0 rfl ?_
  refine p_lay (c := 11) (tq := 100) (n := 6) dX11_tall_1 19 11 tb_912 (by decide) (by decide) h0 (by decide) (by decide) (fun _ => rfl) (vr 100 (a0 + 11) 6) rfl ?_
  refine p_iload_n dX11_tall_4 rfl 1 rfl ?_
  obtain ⟨c1, hf⟩ := hf
  refine p_iald dX11_tall_5 (nnk h0 (by decide)) c1 ?_
  refine p_istore (ls' := [(7, vi (h (a0 + 11) x1)), (0, vr 11 a0 0), (1, vi x1), (2, vi x2), (3, vl x3), (5, vl x5)]) dX11_tall_6 (by decide) rfl ?_
  replace hf := vb_e hf
  generalize (h (a0 + 11) x1) = z2 at hf ⊢
  refine p_aload_n dX11_tall_8 rfl 1 rfl ?_
  refine p_ldc2 (z := 9000000000000000000) dX11_tall_9 tb_1260 (by decide) ?_
  refine p_putl (c := 11) dX11_tall_12 52 tb_945 (by decide) (by decide) (Or.inl rfl) h0 rfl rfl (fun _ => by decide) (up h a0 52 9000000000000000000) rfl ?_
  replace hf := hb_e hf
  generalize up h a0 52 9000000000000000000 = h3 at hf ⊢
  refine p_aload_n dX11_tall_15 rfl 1 rfl ?_
  refine p_ldc2 (z := (-9000000000000000000)) dX11_tall_16 tb_1261 (by decide) ?_
  refine p_putl (c := 11) dX11_tall_19 53 tb_946 (by decide) (by decide) (Or.inl rfl) h0 rfl rfl (fun _ => by decide) (up h3 a0 53 (-9000000000000000000)) rfl ?_
  replace hf := hb_e hf
  generalize up h3 a0 53 (-9000000000000000000) = h4 at hf ⊢
  refine p_lconst (z := 0) dX11_tall_22 rfl ?_
  refine p_lstore (ls' := [(8, vl 0), (7, vi z2), (0, vr 11 a0 0), (1, vi x1), (2, vi x2), (3, vl x3), (5, vl x5)]) dX11_tall_23 (by decide) rfl ?_
  refine p_lconst (z := 0) dX11_tall_25 rfl ?_
  refine p_lstore (ls' := [(10, vl 0), (8, vl 0), (7, vi z2), (0, vr 11 a0 0), (1, vi x1), (2, vi x2), (3, vl x3), (5, vl x5)]) dX11_tall_26 (by decide) rfl ?_
  refine p_iconst dX11_tall_28 (by decide) ?_
  refine p_istore (ls' := [(12, vi 0), (10, vl 0), (8, vl 0), (7, vi z2), (0, vr 11 a0 0), (1, vi x1), (2, vi x2), (3, vl x3), (5, vl x5)]) dX11_tall_29 (by decide) rfl ?_
  refine p_sub (ls' := [(0, vr 11 a0 0), (1, vi x1), (2, vi x2), (3, vl x3), (5, vl x5), (7, vi z2), (8, vl 0), (10, vl 0), (12, vi 0)]) [4, 5, 6, 7, 8, 3, 2, 1, 0] rfl ?_
  refine t_X11_tall_31 h0 ?_ NF _ _ _ _ _ _ _ _ _ hf
  · intro u31 u32 u33 u34 h30 hf
    refine p_aload_n dX11_tall_200 rfl 0 rfl ?_
    refine p_lload dX11_tall_201 3 rfl ?_
    refine p_lload_n dX11_tall_203 rfl 1 rfl ?_
    refine p_lmul dX11_tall_204 ?_
    refine p_lload dX11_tall_205 2 rfl ?_
    refine p_lmul dX11_tall_207 ?_
    refine p_lload_n dX11_tall_208 rfl 1 rfl ?_
    refine p_lload dX11_tall_209 2 rfl ?_
    refine p_ladd dX11_tall_211 ?_
    refine p_callSl dX11_tall_212 M_X11_nearest rfl [vl (w64 ((w64 (u33 * u31)) * u32)), vl (w64 (u31 + u32))] (t_X11_nearest _ _ _ _ hf) ok_X11_nearest rfl tb_1138 tb_1139 rfl (Nat.le_of_ble_eq_true rfl) ⟨rfl, rfl⟩ ⟨by decide, by decide⟩ ⟨by decide, by decide⟩ (fun r35 h36 hf => ?_)
    refine p_callVv dX11_tall_215 M_X11_holds rfl [vl r35] (t_X11_holds _ _ _ _ h0 hf) ok_X11_holds rfl (c := 11) (by decide) h0 rfl tb_1262 ⟨tb_1264, ts_95⟩ rfl (Nat.le_of_ble_eq_true rfl) ⟨rfl, rfl⟩ ⟨by decide, by decide⟩ ⟨by decide, by decide⟩ (fun _ h37 hf => ?_)
    refine p_aload_n dX11_tall_218 rfl 0 rfl ?_
    refine p_lload dX11_tall_219 4 rfl ?_
    refine p_lload_n dX11_tall_221 rfl 1 rfl ?_
    refine p_lmul dX11_tall_222 ?_
    refine p_lload dX11_tall_223 2 rfl ?_
    refine p_lmul dX11_tall_225 ?_
    refine p_lload_n dX11_tall_226 rfl 1 rfl ?_
    refine p_lload dX11_tall_227 2 rfl ?_
    refine p_ladd dX11_tall_229 ?_
    refine p_callSl dX11_tall_230 M_X11_nearest rfl [vl (w64 ((w64 (u34 * u31)) * u32)), vl (w64 (u31 + u32))] (t_X11_nearest _ _ _ _ hf) ok_X11_nearest rfl tb_1138 tb_1139 rfl (Nat.le_of_ble_eq_true rfl) ⟨rfl, rfl⟩ ⟨by decide, by decide⟩ ⟨by decide, by decide⟩ (fun r38 h39 hf => ?_)
    refine p_callVv dX11_tall_233 M_X11_holds rfl [vl r38] (t_X11_holds _ _ _ _ h0 hf) ok_X11_holds rfl (c := 11) (by decide) h0 rfl tb_1262 ⟨tb_1264, ts_95⟩ rfl (Nat.le_of_ble_eq_true rfl) ⟨rfl, rfl⟩ ⟨by decide, by decide⟩ ⟨by decide, by decide⟩ (fun _ h40 hf => ?_)
    refine p_aload_n dX11_tall_236 rfl 0 rfl ?_
    refine p_get (c := 11) (vl (h40 a0 53)) dX11_tall_237 53 tb_946 (by decide) (by decide) (Or.inl rfl) h0 rfl rfl ?_
    refine p_aload_n dX11_tall_240 rfl 0 rfl ?_
    refine p_get (c := 11) (vl (h40 a0 52)) dX11_tall_241 52 tb_945 (by decide) (by decide) (Or.inl rfl) h0 rfl rfl ?_
    refine p_lsub dX11_tall_244 ?_
    exact p_lret dX11_tall_245 rfl (by decide) (by decide) (fun _ h => absurd h List.not_mem_nil) hf
theorem ok_X11_tall : mOK M_X11_tall 4 := ⟨tb_1259, tb_9, by decide +kernel⟩
