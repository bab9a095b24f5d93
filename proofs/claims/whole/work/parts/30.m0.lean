abbrev M_J9_min_7cf53 : MD := (yJ9_min_7cf53, cJ9_min_7cf53, 2, some .int)
abbrev rm_J9_min_7cf53 : Room := { frames := 0, cells := 0, slots := 0, locals := 0 }
def w_J9_min_7cf53_10 (K : Int → Hh → Prop) (s0 : Int) (h : Hh) : Prop := K s0 h
set_option maxRecDepth 100000 in
set_option maxHeartbeats 4000000 in
theorem t_J9_min_7cf53_10 {G : Gx} {n0 : Int} {K : Int → Hh → Prop}  (s0 : Int) (h : Hh) (hf : w_J9_min_7cf53_10 K   s0 h) : PW G M_J9_min_7cf53 rm_J9_min_7cf53 0 0 [] n0 K 10 [] [vi s0] [] 0 0 h := by
  unfold w_J9_min_7cf53_10 at hf
  exact p_iret dJ9_min_7cf53_10 rfl (by decide) (by decide) (fun _ h => absurd h List.not_mem_nil) hf
def w_J9_min_7cf53 (x0 x1 : Int) (h : Hh) (K : Int → Hh → Prop) : Prop := if x0 > x1 then (w_J9_min_7cf53_10 K   x1 h) else (w_J9_min_7cf53_10 K   x0 h)
set_option maxRecDepth 100000 in
set_option maxHeartbeats 4000000 in
theorem t_J9_min_7cf53 {G : Gx} (x0 x1 : Int) (h : Hh) (K : Int → Hh → Prop) (hf : w_J9_min_7cf53 x0 x1 h K) : CT G M_J9_min_7cf53 rm_J9_min_7cf53 0 0 [] [vi x0, vi x1] h K := by
  unfold w_J9_min_7cf53 at hf
  refine CT.of (ls0 := [(0, vi x0), (1, vi x1)]) (by decide +kernel) (by decide +kernel) (Nat.le_of_ble_eq_true rfl) rfl rfl ?_
  refine p_iload_n dJ9_min_7cf53_0 rfl 0 rfl ?_
  refine p_iload_n dJ9_min_7cf53_1 rfl 1 rfl ?_
  refine p_icmp_gt (tgt := 9) (q := x0 > x1) dJ9_min_7cf53_2 (by decide) Iff.rfl (fun hc => ?_) (fun hc => ?_)
  · replace hf := Eq.mp (if_pos hc) hf
    refine p_iload_n dJ9_min_7cf53_9 rfl 1 rfl ?_
    refine p_sub (ls' := []) [] rfl ?_
    exact t_J9_min_7cf53_10  _ _ hf
  · replace hf := Eq.mp (if_neg hc) hf
    refine p_iload_n dJ9_min_7cf53_5 rfl 0 rfl ?_
    refine p_goto (tgt := 10) dJ9_min_7cf53_6 (by decide) ?_
    refine p_sub (ls' := []) [] rfl ?_
    exact t_J9_min_7cf53_10  _ _ hf
theorem ok_J9_min_7cf53 : mOK M_J9_min_7cf53 2 := ⟨tb_472, tb_11, by decide +kernel⟩
abbrev M_X4_init : MD := (yX4_init, cX4_init, 1, none)
abbrev rm_X4_init : Room := { frames := 1, cells := 0, slots := 0, locals := 20 }
def w_X4_init (a0 : Int) (h : Hh) (K : Int → Hh → Prop) : Prop := K 0 h
set_option maxRecDepth 100000 in
set_option maxHeartbeats 4000000 in
theorem t_X4_init {G : Gx} (a0 : Int) (h : Hh) (K : Int → Hh → Prop) (h0 : 0 ≤ a0) (hf : w_X4_init a0 h K) : CT G M_X4_init rm_X4_init 0 0 [] [vr 54 a0 0] h K := by
  unfold w_X4_init at hf
  refine CT.of (ls0 := [(0, vr 54 a0 0)]) (plainFor_of_name (by decide +kernel)) (by decide +kernel) (Nat.le_of_ble_eq_true rfl) rfl rfl ?_
  refine p_aload_n dX4_init_0 rfl 0 rfl ?_
  refine p_oinit dX4_init_1 tb_478 tb_22 tb_23 (by decide) h0 (Nat.le_of_ble_eq_true rfl) ⟨by decide, by decide⟩ ?_
  exact p_vret dX4_init_4 rfl (by decide) (by decide) (fun _ h => absurd h List.not_mem_nil) hf
theorem ok_X4_init : mOK M_X4_init 0 := ⟨tb_477, tb_13, by decide +kernel⟩
abbrev M_X0_init : MD := (yX0_init, cX0_init, 4, none)
abbrev rm_X0_init : Room := { frames := 2, cells := 6, slots := 21, locals := 40 }
def w_X0_init (a0 x1 x2 x3 : Int) (h : Hh) (K : Int → Hh → Prop) : Prop := hb (up h a0 0 x1) fun h1 => hb (up h1 a0 1 x2) fun h2 => hb (up h2 a0 4 x3) fun h3 => 0 ≤ x1 ∧ (w_J9_min_7cf53 (w32 ((h3 x1 0) - 1)) 4 h3 (fun r5 h6 => hb (up h6 a0 2 r5) fun h7 => hb (up h7 a0 3 (w32 ((h7 a0 2) - 1))) fun h8 => (h8 (-1) 0 = a0 + 1) ∧ (hb (nw h8 (fun _ => 0)) fun h10 => hb (up h10 a0 5 (a0 + 1)) fun h11 => (h11 (-1) 0 = a0 + 2) ∧ (hb (nw h11 (fun _ => 0)) fun h13 => hb (up h13 a0 6 (a0 + 2)) fun h14 => (h14 (-1) 0 = a0 + 3) ∧ (hb (nw h14 (fun _ => 0)) fun h16 => hb (up h16 a0 7 (a0 + 3)) fun h17 => (h17 (-1) 0 = a0 + 4) ∧ (hb (nw h17 (fun _ => 0)) fun h19 => hb (up h19 a0 8 (a0 + 4)) fun h20 => (h20 (-1) 0 = a0 + 5) ∧ (hb (nw h20 (fun _ => 0)) fun h22 => hb (up h22 a0 9 (a0 + 5)) fun h23 => (h23 (-1) 0 = a0 + 6) ∧ (hb (nw h23 (dfl 4)) fun h25 => w_X4_init (a0 + 6) h25 (fun _ h26 => (h (-1) 0 ≤ a0 + 6) ∧ (hb (up h26 a0 10 (a0 + 6)) fun h28 => K 0 h28))))))))))
set_option maxRecDepth 100000 in
set_option maxHeartbeats 4000000 in
theorem t_X0_init {G : Gx} (a0 x1 x2 x3 : Int) (h : Hh) (K : Int → Hh → Prop) (h0 : 0 ≤ a0) (hf : w_X0_init a0 x1 x2 x3 h K) : CT G M_X0_init rm_X0_init 6 21 [vr 100 (a0 + 1) 4, vr 100 (a0 + 2) 3, vr 100 (a0 + 3) 3, vr 101 (a0 + 4) 4, vr 101 (a0 + 5) 4, vr 4 (a0 + 6) 0] [vr 50 a0 0, vr 7 x1 0, vi x2, vi x3] h K := by
  unfold w_X0_init at hf
  refine CT.of (ls0 := [(0, vr 50 a0 0), (1, vr 7 x1 0), (2, vi x2), (3, vi x3)]) (plainFor_of_name (by decide +kernel)) (by decide +kernel) (Nat.le_of_ble_eq_true rfl) rfl rfl ?_
  refine p_aload_n dX0_init_0 rfl 0 rfl ?_
  refine p_oinit dX0_init_1 tb_469 tb_22 tb_23 (by decide) h0 (Nat.le_of_ble_eq_true rfl) ⟨by decide, by decide⟩ ?_
  refine p_aload_n dX0_init_4 rfl 0 rfl ?_
  refine p_aload_n dX0_init_5 rfl 1 rfl ?_
  refine p_putrF (c := 0) (Cn := "ThreadCharts$Rule") dX0_init_6 0 tb_489 (by decide) (by decide) (Or.inr rfl) h0 rfl rfl rfl rfl rfl (fun q => absurd q (by decide)) (up h a0 0 x1) rfl ?_
  replace hf := hb_e hf
  generalize up h a0 0 x1 = h1 at hf ⊢
  refine p_aload_n dX0_init_9 rfl 0 rfl ?_
  refine p_iload_n dX0_init_10 rfl 2 rfl ?_
  refine p_putiF (c := 0) dX0_init_11 1 tb_492 (by decide) (by decide) (Or.inr rfl) h0 rfl rfl rfl rfl rfl (fun q => absurd q (by decide)) (up h1 a0 1 x2) rfl ?_
  replace hf := hb_e hf
  generalize up h1 a0 1 x2 = h2 at hf ⊢
  refine p_aload_n dX0_init_14 rfl 0 rfl ?_
  refine p_iload_n dX0_init_15 rfl 3 rfl ?_
  refine p_putiF (c := 0) dX0_init_16 4 tb_501 (by decide) (by decide) (Or.inr rfl) h0 rfl rfl rfl rfl rfl (fun q => absurd q (by decide)) (up h2 a0 4 x3) rfl ?_
  replace hf := hb_e hf
  generalize up h2 a0 4 x3 = h3 at hf ⊢
  refine p_aload_n dX0_init_19 rfl 0 rfl ?_
  refine p_aload_n dX0_init_20 rfl 1 rfl ?_
  obtain ⟨c4, hf⟩ := hf
  refine p_getN (c := 7) (vi (h3 x1 0)) dX0_init_21 0 tb_354 (by decide) (by decide) (Or.inl rfl) c4 rfl rfl ?_
  refine p_iconst dX0_init_24 (by decide) ?_
  refine p_isub dX0_init_25 ?_
  refine p_iconst dX0_init_26 (by decide) ?_
  refine p_callSi dX0_init_27 M_J9_min_7cf53 (Or.inl rfl) [vi (w32 ((h3 x1 0) - 1)), vi 4] (t_J9_min_7cf53 _ _ _ _ hf) ok_J9_min_7cf53 rfl tb_470 tb_471 rfl (Nat.le_of_ble_eq_true rfl) ⟨rfl, rfl⟩ ⟨by decide, by decide⟩ ⟨by decide, by decide⟩ (fun r5 h6 hf => ?_)
  refine p_putiF (c := 0) dX0_init_30 2 tb_494 (by decide) (by decide) (Or.inr rfl) h0 rfl rfl rfl rfl rfl (fun q => absurd q (by decide)) (up h6 a0 2 r5) rfl ?_
  replace hf := hb_e hf
  generalize up h6 a0 2 r5 = h7 at hf ⊢
  refine p_aload_n dX0_init_33 rfl 0 rfl ?_
  refine p_aload_n dX0_init_34 rfl 0 rfl ?_
  refine p_get (c := 0) (vi (h7 a0 2)) dX0_init_35 2 tb_494 (by decide) (by decide) (Or.inr rfl) h0 rfl rfl ?_
  refine p_iconst dX0_init_38 (by decide) ?_
  refine p_isub dX0_init_39 ?_
  refine p_putiF (c := 0) dX0_init_40 3 tb_498 (by decide) (by decide) (Or.inr rfl) h0 rfl rfl rfl rfl rfl (fun q => absurd q (by decide)) (up h7 a0 3 (w32 ((h7 a0 2) - 1))) rfl ?_
  replace hf := hb_e hf
  generalize up h7 a0 3 (w32 ((h7 a0 2) - 1)) = h8 at hf ⊢
  refine p_aload_n dX0_init_43 rfl 0 rfl ?_
  refine p_iconst dX0_init_44 (by decide) ?_
  obtain ⟨c9, hf⟩ := hf
  refine p_newa (t := 100) (ti := 0) (ty := .int) (z := a0 + 1) dX0_init_45 rfl (Or.inl ⟨rfl, rfl⟩) rfl tb_75 (by decide) c9 ⟨by decide, by decide⟩ ?_
  replace hf := hb_e hf
  generalize nw h8 (fun _ => 0) = h10 at hf ⊢
  refine p_norm (kn' := [vr 100 (a0 + 1) 4]) (cells' := 1) (slots' := 4) rfl rfl rfl ?_
  refine p_putaF (c := 0) dX0_init_47 5 tb_502 (by decide) (by decide) (Or.inr rfl) h0 rfl rfl rfl rfl rfl (by decide) (fun q => absurd q (by decide)) (up h10 a0 5 (a0 + 1)) rfl ?_
  replace hf := hb_e hf
  generalize up h10 a0 5 (a0 + 1) = h11 at hf ⊢
  refine p_aload_n dX0_init_50 rfl 0 rfl ?_
  refine p_iconst dX0_init_51 (by decide) ?_
  obtain ⟨c12, hf⟩ := hf
  refine p_newa (t := 100) (ti := 0) (ty := .int) (z := a0 + 2) dX0_init_52 rfl (Or.inl ⟨rfl, rfl⟩) rfl tb_75 (by decide) c12 ⟨by decide, by decide⟩ ?_
  replace hf := hb_e hf
  generalize nw h11 (fun _ => 0) = h13 at hf ⊢
  refine p_norm (kn' := [vr 100 (a0 + 2) 3, vr 100 (a0 + 1) 4]) (cells' := 2) (slots' := 7) rfl rfl rfl ?_
  refine p_putaF (c := 0) dX0_init_54 6 tb_505 (by decide) (by decide) (Or.inr rfl) h0 rfl rfl rfl rfl rfl (by decide) (fun q => absurd q (by decide)) (up h13 a0 6 (a0 + 2)) rfl ?_
  replace hf := hb_e hf
  generalize up h13 a0 6 (a0 + 2) = h14 at hf ⊢
  refine p_aload_n dX0_init_57 rfl 0 rfl ?_
  refine p_iconst dX0_init_58 (by decide) ?_
  obtain ⟨c15, hf⟩ := hf
  refine p_newa (t := 100) (ti := 0) (ty := .int) (z := a0 + 3) dX0_init_59 rfl (Or.inl ⟨rfl, rfl⟩) rfl tb_75 (by decide) c15 ⟨by decide, by decide⟩ ?_
  replace hf := hb_e hf
  generalize nw h14 (fun _ => 0) = h16 at hf ⊢
  refine p_norm (kn' := [vr 100 (a0 + 3) 3, vr 100 (a0 + 2) 3, vr 100 (a0 + 1) 4]) (cells' := 3) (slots' := 10) rfl rfl rfl ?_
  refine p_putaF (c := 0) dX0_init_61 7 tb_508 (by decide) (by decide) (Or.inr rfl) h0 rfl rfl rfl rfl rfl (by decide) (fun q => absurd q (by decide)) (up h16 a0 7 (a0 + 3)) rfl ?_
  replace hf := hb_e hf
  generalize up h16 a0 7 (a0 + 3) = h17 at hf ⊢
  refine p_aload_n dX0_init_64 rfl 0 rfl ?_
  refine p_iconst dX0_init_65 (by decide) ?_
  obtain ⟨c18, hf⟩ := hf
  refine p_newa (t := 101) (ti := 1) (ty := .long) (z := a0 + 4) dX0_init_66 rfl (Or.inr (Or.inl ⟨rfl, rfl⟩)) rfl tb_169 (by decide) c18 ⟨by decide, by decide⟩ ?_
  replace hf := hb_e hf
  generalize nw h17 (fun _ => 0) = h19 at hf ⊢
  refine p_norm (kn' := [vr 101 (a0 + 4) 4, vr 100 (a0 + 3) 3, vr 100 (a0 + 2) 3, vr 100 (a0 + 1) 4]) (cells' := 4) (slots' := 14) rfl rfl rfl ?_
  refine p_putaF (c := 0) dX0_init_68 8 tb_511 (by decide) (by decide) (Or.inr rfl) h0 rfl rfl rfl rfl rfl (by decide) (fun q => absurd q (by decide)) (up h19 a0 8 (a0 + 4)) rfl ?_
  replace hf := hb_e hf
  generalize up h19 a0 8 (a0 + 4) = h20 at hf ⊢
  refine p_aload_n dX0_init_71 rfl 0 rfl ?_
  refine p_iconst dX0_init_72 (by decide) ?_
  obtain ⟨c21, hf⟩ := hf
  refine p_newa (t := 101) (ti := 1) (ty := .long) (z := a0 + 5) dX0_init_73 rfl (Or.inr (Or.inl ⟨rfl, rfl⟩)) rfl tb_169 (by decide) c21 ⟨by decide, by decide⟩ ?_
  replace hf := hb_e hf
  generalize nw h20 (fun _ => 0) = h22 at hf ⊢
  refine p_norm (kn' := [vr 101 (a0 + 5) 4, vr 101 (a0 + 4) 4, vr 100 (a0 + 3) 3, vr 100 (a0 + 2) 3, vr 100 (a0 + 1) 4]) (cells' := 5) (slots' := 18) rfl rfl rfl ?_
  refine p_putaF (c := 0) dX0_init_75 9 tb_512 (by decide) (by decide) (Or.inr rfl) h0 rfl rfl rfl rfl rfl (by decide) (fun q => absurd q (by decide)) (up h22 a0 9 (a0 + 5)) rfl ?_
  replace hf := hb_e hf
  generalize up h22 a0 9 (a0 + 5) = h23 at hf ⊢
  refine p_aload_n dX0_init_78 rfl 0 rfl ?_
  obtain ⟨c24, hf⟩ := hf
  refine p_new (c := 4) (z := a0 + 6) dX0_init_79 (by decide) tb_473 tb_474 tb_13 c24 ⟨by decide, by decide⟩ ?_
  replace hf := hb_e hf
  generalize nw h23 (dfl 4) = h25 at hf ⊢
  refine p_norm (kn' := [vr 101 (a0 + 5) 4, vr 101 (a0 + 4) 4, vr 100 (a0 + 3) 3, vr 100 (a0 + 2) 3, vr 100 (a0 + 1) 4]) (cells' := 6) (slots' := 21) rfl rfl rfl ?_
  refine p_dup dX0_init_82 (fun _ q => by cases q) ?_
  refine p_callINv (c := 4) dX0_init_83 M_X4_init rfl [] (t_X4_init _ _ _ (nnk h0 (by decide)) hf) ok_X4_init rfl (by decide) (nnk h0 (by decide)) rfl tb_475 rfl tb_476 rfl (Nat.le_of_ble_eq_true rfl) ⟨rfl, rfl⟩ ⟨by decide, by decide⟩ ⟨by decide, by decide⟩ (fun _ h26 hf => ?_)
  refine p_norm (kn' := [vr 101 (a0 + 5) 4, vr 101 (a0 + 4) 4, vr 100 (a0 + 3) 3, vr 100 (a0 + 2) 3, vr 100 (a0 + 1) 4]) (cells' := 6) (slots' := 21) rfl rfl rfl ?_
  obtain ⟨c27, hf⟩ := hf
  refine p_seal (c := 4) (by decide) (nnk h0 (by decide)) c27 (show ∀ y ∈ ([] : List (Nat × Nat × Kd)), _ from fun _ h => absurd h List.not_mem_nil) (List.forall_mem_cons.mpr ⟨Or.inr (Or.inr (nek (by decide))), List.forall_mem_cons.mpr ⟨Or.inl (by decide), List.forall_mem_cons.mpr ⟨trivial, List.forall_mem_cons.mpr ⟨trivial, fun _ h => absurd h List.not_mem_nil⟩⟩⟩⟩) (List.forall_mem_cons.mpr ⟨Or.inr (Or.inr (nek (by decide))), fun _ h => absurd h List.not_mem_nil⟩) (List.forall_mem_cons.mpr ⟨Or.inr (Or.inl (by decide)), List.forall_mem_cons.mpr ⟨Or.inr (Or.inl (by decide)), List.forall_mem_cons.mpr ⟨Or.inr (Or.inl (by decide)), List.forall_mem_cons.mpr ⟨Or.inr (Or.inl (by decide)), List.forall_mem_cons.mpr ⟨Or.inr (Or.inl (by decide)), fun _ h => absurd h List.not_mem_nil⟩⟩⟩⟩⟩) ?_
  refine p_putrF (c := 0) (Cn := "ThreadCharts$Paper") dX0_init_86 10 tb_513 (by decide) (by decide) (Or.inr rfl) h0 rfl rfl rfl rfl rfl (fun q => absurd q (by decide)) (up h26 a0 10 (a0 + 6)) rfl ?_
  replace hf := hb_e hf
  generalize up h26 a0 10 (a0 + 6) = h28 at hf ⊢
  exact p_vret dX0_init_89 rfl (by decide) (by decide) (List.forall_mem_cons.mpr ⟨List.mem_of_getElem? (i := 5) rfl, List.forall_mem_cons.mpr ⟨List.mem_of_getElem? (i := 4) rfl, List.forall_mem_cons.mpr ⟨List.mem_of_getElem? (i := 3) rfl, List.forall_mem_cons.mpr ⟨List.mem_of_getElem? (i := 2) rfl, List.forall_mem_cons.mpr ⟨List.mem_of_getElem? (i := 1) rfl, List.forall_mem_cons.mpr ⟨List.mem_of_getElem? (i := 0) rfl, fun _ h => absurd h List.not_mem_nil⟩⟩⟩⟩⟩⟩) hf
theorem ok_X0_init : mOK M_X0_init 3 := ⟨tb_468, tb_12, by decide +kernel⟩
abbrev M_X7_hasTerm : MD := (yX7_hasTerm, cX7_hasTerm, 2, some .boolean)
abbrev rm_X7_hasTerm : Room := { frames := 0, cells := 0, slots := 0, locals := 0 }
def w_X7_hasTerm_22 (K : Int → Hh → Prop) (a0 : Int) (s0 : Int) (h : Hh) : Prop := (s0 = 0 ∨ s0 = 1) ∧ (K s0 h)
set_option maxRecDepth 100000 in
set_option maxHeartbeats 4000000 in
theorem t_X7_hasTerm_22 {G : Gx} {n0 : Int} {K : Int → Hh → Prop} {a0 : Int} (h0 : 0 ≤ a0)  (s0 : Int) (h : Hh) (hf : w_X7_hasTerm_22 K  a0 s0 h) : PW G M_X7_hasTerm rm_X7_hasTerm 0 0 [] n0 K 22 [] [vi s0] [] 0 0 h := by
  unfold w_X7_hasTerm_22 at hf
  obtain ⟨c1, hf⟩ := hf
  exact p_zret dX7_hasTerm_22 rfl (by decide) (by decide) (fun _ h => absurd h List.not_mem_nil) c1 hf
def w_X7_hasTerm_21 (K : Int → Hh → Prop) (a0 : Int) (h : Hh) : Prop := w_X7_hasTerm_22 K  a0 0 h
set_option maxRecDepth 100000 in
set_option maxHeartbeats 4000000 in
theorem t_X7_hasTerm_21 {G : Gx} {n0 : Int} {K : Int → Hh → Prop} {a0 : Int} (h0 : 0 ≤ a0)  (h : Hh) (hf : w_X7_hasTerm_21 K  a0  h) : PW G M_X7_hasTerm rm_X7_hasTerm 0 0 [] n0 K 21 [] [] [] 0 0 h := by
  unfold w_X7_hasTerm_21 at hf
  refine p_iconst dX7_hasTerm_21 (by decide) ?_
  exact t_X7_hasTerm_22 h0  _ _ hf
def w_X7_hasTerm (a0 x1 : Int) (h : Hh) (K : Int → Hh → Prop) : Prop := if x1 < 0 then (w_X7_hasTerm_21 K  a0  h) else (if x1 ≥ h a0 0 then (w_X7_hasTerm_21 K  a0  h) else (if x1 ≥ 5 then (w_X7_hasTerm_21 K  a0  h) else (w_X7_hasTerm_22 K  a0 1 h)))
set_option maxRecDepth 100000 in
set_option maxHeartbeats 4000000 in
theorem t_X7_hasTerm {G : Gx} (a0 x1 : Int) (h : Hh) (K : Int → Hh → Prop) (h0 : 0 ≤ a0) (hf : w_X7_hasTerm a0 x1 h K) : CT G M_X7_hasTerm rm_X7_hasTerm 0 0 [] [vr 7 a0 0, vi x1] h K := by
  unfold w_X7_hasTerm at hf
  refine CT.of (ls0 := [(0, vr 7 a0 0), (1, vi x1)]) (plainFor_of_name (by decide +kernel)) (by decide +kernel) (Nat.le_of_ble_eq_true rfl) rfl rfl ?_
  refine p_iload_n dX7_hasTerm_0 rfl 1 rfl ?_
  refine p_if_lt (tgt := 21) (q := x1 < 0) dX7_hasTerm_1 (by decide) Iff.rfl (fun hc => ?_) (fun hc => ?_)
  · replace hf := Eq.mp (if_pos hc) hf
    refine p_sub (ls' := []) [] rfl ?_
    exact t_X7_hasTerm_21 h0   _ hf
  · replace hf := Eq.mp (if_neg hc) hf
    refine p_iload_n dX7_hasTerm_4 rfl 1 rfl ?_
    refine p_aload_n dX7_hasTerm_5 rfl 0 rfl ?_
    refine p_get (c := 7) (vi (h a0 0)) dX7_hasTerm_6 0 tb_353 (by decide) (by decide) (Or.inl rfl) h0 rfl rfl ?_
    refine p_icmp_ge (tgt := 21) (q := x1 ≥ h a0 0) dX7_hasTerm_9 (by decide) Iff.rfl (fun hc => ?_) (fun hc => ?_)
    · replace hf := Eq.mp (if_pos hc) hf
      refine p_sub (ls' := []) [] rfl ?_
      exact t_X7_hasTerm_21 h0   _ hf
    · replace hf := Eq.mp (if_neg hc) hf
      refine p_iload_n dX7_hasTerm_12 rfl 1 rfl ?_
      refine p_iconst dX7_hasTerm_13 (by decide) ?_
      refine p_icmp_ge (tgt := 21) (q := x1 ≥ 5) dX7_hasTerm_14 (by decide) Iff.rfl (fun hc => ?_) (fun hc => ?_)
      · replace hf := Eq.mp (if_pos hc) hf
        refine p_sub (ls' := []) [] rfl ?_
        exact t_X7_hasTerm_21 h0   _ hf
      · replace hf := Eq.mp (if_neg hc) hf
        refine p_iconst dX7_hasTerm_17 (by decide) ?_
        refine p_goto (tgt := 22) dX7_hasTerm_18 (by decide) ?_
        refine p_sub (ls' := []) [] rfl ?_
        exact t_X7_hasTerm_22 h0  _ _ hf
theorem ok_X7_hasTerm : mOK M_X7_hasTerm 1 := ⟨tb_397, tb_10, by decide +kernel⟩
abbrev M_X7_hasMark : MD := (yX7_hasMark, cX7_hasMark, 3, some .boolean)
abbrev rm_X7_hasMark : Room := { frames := 1, cells := 0, slots := 0, locals := 21 }
def w_X7_hasMark_27 (K : Int → Hh → Prop) (a0 : Int) (s0 : Int) (h : Hh) : Prop := (s0 = 0 ∨ s0 = 1) ∧ (K s0 h)
set_option maxRecDepth 100000 in
set_option maxHeartbeats 4000000 in
theorem t_X7_hasMark_27 {G : Gx} {n0 : Int} {K : Int → Hh → Prop} {a0 : Int} (h0 : 0 ≤ a0)  (s0 : Int) (h : Hh) (hf : w_X7_hasMark_27 K  a0 s0 h) : PW G M_X7_hasMark rm_X7_hasMark 0 0 [] n0 K 27 [] [vi s0] [] 0 0 h := by
  unfold w_X7_hasMark_27 at hf
  obtain ⟨c3, hf⟩ := hf
  exact p_zret dX7_hasMark_27 rfl (by decide) (by decide) (fun _ h => absurd h List.not_mem_nil) c3 hf
def w_X7_hasMark_26 (K : Int → Hh → Prop) (a0 : Int) (h : Hh) : Prop := w_X7_hasMark_27 K  a0 0 h
set_option maxRecDepth 100000 in
set_option maxHeartbeats 4000000 in
theorem t_X7_hasMark_26 {G : Gx} {n0 : Int} {K : Int → Hh → Prop} {a0 : Int} (h0 : 0 ≤ a0)  (h : Hh) (hf : w_X7_hasMark_26 K  a0  h) : PW G M_X7_hasMark rm_X7_hasMark 0 0 [] n0 K 26 [] [] [] 0 0 h := by
  unfold w_X7_hasMark_26 at hf
  refine p_iconst dX7_hasMark_26 (by decide) ?_
  exact t_X7_hasMark_27 h0  _ _ hf
def w_X7_hasMark (a0 x1 x2 : Int) (h : Hh) (K : Int → Hh → Prop) : Prop := w_X7_hasTerm a0 x1 h (fun r1 h2 => if r1 = 0 then (w_X7_hasMark_26 K  a0  h2) else (if x2 < 0 then (w_X7_hasMark_26 K  a0  h2) else (((0 : Int) ≤ x1 ∧ (x1 : Int) < 5) ∧ (if x2 ≥ h2 (a0 + 3) x1 then (w_X7_hasMark_26 K  a0  h2) else (w_X7_hasMark_27 K  a0 1 h2)))))
set_option maxRecDepth 100000 in
set_option maxHeartbeats 4000000 in
theorem t_X7_hasMark {G : Gx} (a0 x1 x2 : Int) (h : Hh) (K : Int → Hh → Prop) (h0 : 0 ≤ a0) (hf : w_X7_hasMark a0 x1 x2 h K) : CT G M_X7_hasMark rm_X7_hasMark 0 0 [] [vr 7 a0 0, vi x1, vi x2] h K := by
  unfold w_X7_hasMark at hf
  refine CT.of (ls0 := [(0, vr 7 a0 0), (1, vi x1), (2, vi x2)]) (plainFor_of_name (by decide +kernel)) (by decide +kernel) (Nat.le_of_ble_eq_true rfl) rfl rfl ?_
  refine p_aload_n dX7_hasMark_0 rfl 0 rfl ?_
  refine p_iload_n dX7_hasMark_1 rfl 1 rfl ?_
  refine p_callVi dX7_hasMark_2 M_X7_hasTerm (Or.inr rfl) [vi x1] (t_X7_hasTerm _ _ _ _ h0 hf) ok_X7_hasTerm rfl (c := 7) (by decide) h0 rfl tb_394 ⟨tb_396, ts_13⟩ rfl (Nat.le_of_ble_eq_true rfl) ⟨rfl, rfl⟩ ⟨by decide, by decide⟩ ⟨by decide, by decide⟩ (fun r1 h2 hf => ?_)
  refine p_if_eq (tgt := 26) (q := r1 = 0) dX7_hasMark_5 (by decide) Iff.rfl (fun hc => ?_) (fun hc => ?_)
  · replace hf := Eq.mp (if_pos hc) hf
    refine p_sub (ls' := []) [] rfl ?_
    exact t_X7_hasMark_26 h0   _ hf
  · replace hf := Eq.mp (if_neg hc) hf
    refine p_iload_n dX7_hasMark_8 rfl 2 rfl ?_
    refine p_if_lt (tgt := 26) (q := x2 < 0) dX7_hasMark_9 (by decide) Iff.rfl (fun hc => ?_) (fun hc => ?_)
    · replace hf := Eq.mp (if_pos hc) hf
      refine p_sub (ls' := []) [] rfl ?_
      exact t_X7_hasMark_26 h0   _ hf
    · replace hf := Eq.mp (if_neg hc) hf
      refine p_iload_n dX7_hasMark_12 rfl 2 rfl ?_
      refine p_aload_n dX7_hasMark_13 rfl 0 rfl ?_
      refine p_lay (c := 7) (tq := 100) (n := 5) dX7_hasMark_14 4 3 tb_360 (by decide) (by decide) h0 (by decide) (by decide) (fun _ => rfl) (vr 100 (a0 + 3) 5) rfl ?_
      refine p_iload_n dX7_hasMark_17 rfl 1 rfl ?_
      obtain ⟨c4, hf⟩ := hf
      refine p_iald dX7_hasMark_18 (nnk h0 (by decide)) c4 ?_
      refine p_icmp_ge (tgt := 26) (q := x2 ≥ h2 (a0 + 3) x1) dX7_hasMark_19 (by decide) Iff.rfl (fun hc => ?_) (fun hc => ?_)
      · replace hf := Eq.mp (if_pos hc) hf
        refine p_sub (ls' := []) [] rfl ?_
        exact t_X7_hasMark_26 h0   _ hf
      · replace hf := Eq.mp (if_neg hc) hf
        refine p_iconst dX7_hasMark_22 (by decide) ?_
        refine p_goto (tgt := 27) dX7_hasMark_23 (by decide) ?_
        refine p_sub (ls' := []) [] rfl ?_
        exact t_X7_hasMark_27 h0  _ _ hf
theorem ok_X7_hasMark : mOK M_X7_hasMark 2 := ⟨tb_444, tb_10, by decide +kernel⟩
abbrev M_X7_signedOf : MD := (yX7_signedOf, cX7_signedOf, 3, some .int)
abbrev rm_X7_signedOf : Room := { frames := 2, cells := 0, slots := 0, locals := 43 }
def w_X7_signedOf_28 (K : Int → Hh → Prop) (a0 : Int) (s0 : Int) (h : Hh) : Prop := K s0 h
set_option maxRecDepth 100000 in
set_option maxHeartbeats 4000000 in
theorem t_X7_signedOf_28 {G : Gx} {n0 : Int} {K : Int → Hh → Prop} {a0 : Int} (h0 : 0 ≤ a0)  (s0 : Int) (h : Hh) (hf : w_X7_signedOf_28 K  a0 s0 h) : PW G M_X7_signedOf rm_X7_signedOf 0 0 [] n0 K 28 [] [vi s0] [] 0 0 h := by
  unfold w_X7_signedOf_28 at hf
  exact p_iret dX7_signedOf_28 rfl (by decide) (by decide) (fun _ h => absurd h List.not_mem_nil) hf
def w_X7_signedOf (a0 x1 x2 : Int) (h : Hh) (K : Int → Hh → Prop) : Prop := w_X7_hasMark a0 x1 x2 h (fun r1 h2 => if r1 = 0 then (w_X7_signedOf_28 K  a0 0 h2) else (((0 : Int) ≤ x1 ∧ (x1 : Int) < 5) ∧ (((0 : Int) ≤ x2 ∧ (x2 : Int) < 40) ∧ (w_X7_signedOf_28 K  a0 (w32 ((h2 (a0 + 2) x1) * (h2 (a0 + 4 + 1 + x1) x2))) h2))))
set_option maxRecDepth 100000 in
set_option maxHeartbeats 4000000 in
theorem t_X7_signedOf {G : Gx} (a0 x1 x2 : Int) (h : Hh) (K : Int → Hh → Prop) (h0 : 0 ≤ a0) (hf : w_X7_signedOf a0 x1 x2 h K) : CT G M_X7_signedOf rm_X7_signedOf 0 0 [] [vr 7 a0 0, vi x1, vi x2] h K := by
  unfold w_X7_signedOf at hf
  refine CT.of (ls0 := [(0, vr 7 a0 0), (1, vi x1), (2, vi x2)]) (plainFor_of_name (by decide +kernel)) (by decide +kernel) (Nat.le_of_ble_eq_true rfl) rfl rfl ?_
  refine p_aload_n dX7_signedOf_0 rfl 0 rfl ?_
  refine p_iload_n dX7_signedOf_1 rfl 1 rfl ?_
  refine p_iload_n dX7_signedOf_2 rfl 2 rfl ?_
  refine p_callVi dX7_signedOf_3 M_X7_hasMark (Or.inr rfl) [vi x1, vi x2] (t_X7_hasMark _ _ _ _ _ h0 hf) ok_X7_hasMark rfl (c := 7) (by decide) h0 rfl tb_449 ⟨tb_443, ts_18⟩ rfl (Nat.le_of_ble_eq_true rfl) ⟨rfl, rfl⟩ ⟨by decide, by decide⟩ ⟨by decide, by decide⟩ (fun r1 h2 hf => ?_)
  refine p_if_eq (tgt := 27) (q := r1 = 0) dX7_signedOf_6 (by decide) Iff.rfl (fun hc => ?_) (fun hc => ?_)
  · replace hf := Eq.mp (if_pos hc) hf
    refine p_iconst dX7_signedOf_27 (by decide) ?_
    refine p_sub (ls' := []) [] rfl ?_
    exact t_X7_signedOf_28 h0  _ _ hf
  · replace hf := Eq.mp (if_neg hc) hf
    refine p_aload_n dX7_signedOf_9 rfl 0 rfl ?_
    refine p_lay (c := 7) (tq := 100) (n := 5) dX7_signedOf_10 3 2 tb_359 (by decide) (by decide) h0 (by decide) (by decide) (fun _ => rfl) (vr 100 (a0 + 2) 5) rfl ?_
    refine p_iload_n dX7_signedOf_13 rfl 1 rfl ?_
    obtain ⟨c3, hf⟩ := hf
    refine p_iald dX7_signedOf_14 (nnk h0 (by decide)) c3 ?_
    refine p_aload_n dX7_signedOf_15 rfl 0 rfl ?_
    refine p_lay (c := 7) (tq := 105) (n := 5) dX7_signedOf_16 5 4 tb_361 (by decide) (by decide) h0 (by decide) (by decide) (fun _ => rfl) (vr 105 (a0 + 4) 5) rfl ?_
    refine p_iload_n dX7_signedOf_19 rfl 1 rfl ?_
    refine p_aaldI dX7_signedOf_20 (nnk h0 (by decide)) c3 ?_
    refine p_iload_n dX7_signedOf_21 rfl 2 rfl ?_
    obtain ⟨c4, hf⟩ := hf
    refine p_iald dX7_signedOf_22 (nnk (nnk (nnk h0 (by decide)) (by decide)) c3.1) c4 ?_
    refine p_imul dX7_signedOf_23 ?_
    refine p_goto (tgt := 28) dX7_signedOf_24 (by decide) ?_
    refine p_sub (ls' := []) [] rfl ?_
    exact t_X7_signedOf_28 h0  _ _ hf
theorem ok_X7_signedOf : mOK M_X7_signedOf 2 := ⟨tb_550, tb_10, by decide +kernel⟩
abbrev M_X7_lastMarkOf : MD := (yX7_lastMarkOf, cX7_lastMarkOf, 2, some .int)
abbrev rm_X7_lastMarkOf : Room := { frames := 1, cells := 0, slots := 0, locals := 21 }
def w_X7_lastMarkOf_20 (K : Int → Hh → Prop) (a0 : Int) (s0 : Int) (h : Hh) : Prop := K s0 h
set_option maxRecDepth 100000 in
set_option maxHeartbeats 4000000 in
theorem t_X7_lastMarkOf_20 {G : Gx} {n0 : Int} {K : Int → Hh → Prop} {a0 : Int} (h0 : 0 ≤ a0)  (s0 : Int) (h : Hh) (hf : w_X7_lastMarkOf_20 K  a0 s0 h) : PW G M_X7_lastMarkOf rm_X7_lastMarkOf 0 0 [] n0 K 20 [] [vi s0] [] 0 0 h := by
  unfold w_X7_lastMarkOf_20 at hf
  exact p_iret dX7_lastMarkOf_20 rfl (by decide) (by decide) (fun _ h => absurd h List.not_mem_nil) hf
def w_X7_lastMarkOf (a0 x1 : Int) (h : Hh) (K : Int → Hh → Prop) : Prop := w_X7_hasTerm a0 x1 h (fun r1 h2 => if r1 = 0 then (w_X7_lastMarkOf_20 K  a0 0 h2) else (((0 : Int) ≤ x1 ∧ (x1 : Int) < 5) ∧ (w_X7_lastMarkOf_20 K  a0 (w32 ((h2 (a0 + 3) x1) - 1)) h2)))
set_option maxRecDepth 100000 in
set_option maxHeartbeats 4000000 in
theorem t_X7_lastMarkOf {G : Gx} (a0 x1 : Int) (h : Hh) (K : Int → Hh → Prop) (h0 : 0 ≤ a0) (hf : w_X7_lastMarkOf a0 x1 h K) : CT G M_X7_lastMarkOf rm_X7_lastMarkOf 0 0 [] [vr 7 a0 0, vi x1] h K := by
  unfold w_X7_lastMarkOf at hf
  refine CT.of (ls0 := [(0, vr 7 a0 0), (1, vi x1)]) (plainFor_of_name (by decide +kernel)) (by decide +kernel) (Nat.le_of_ble_eq_true rfl) rfl rfl ?_
  refine p_aload_n dX7_lastMarkOf_0 rfl 0 rfl ?_
  refine p_iload_n dX7_lastMarkOf_1 rfl 1 rfl ?_
  refine p_callVi dX7_lastMarkOf_2 M_X7_hasTerm (Or.inr rfl) [vi x1] (t_X7_hasTerm _ _ _ _ h0 hf) ok_X7_hasTerm rfl (c := 7) (by decide) h0 rfl tb_394 ⟨tb_396, ts_13⟩ rfl (Nat.le_of_ble_eq_true rfl) ⟨rfl, rfl⟩ ⟨by decide, by decide⟩ ⟨by decide, by decide⟩ (fun r1 h2 hf => ?_)
  refine p_if_eq (tgt := 19) (q := r1 = 0) dX7_lastMarkOf_5 (by decide) Iff.rfl (fun hc => ?_) (fun hc => ?_)
  · replace hf := Eq.mp (if_pos hc) hf
    refine p_iconst dX7_lastMarkOf_19 (by decide) ?_
    refine p_sub (ls' := []) [] rfl ?_
    exact t_X7_lastMarkOf_20 h0  _ _ hf
  · replace hf := Eq.mp (if_neg hc) hf
    refine p_aload_n dX7_lastMarkOf_8 rfl 0 rfl ?_
    refine p_lay (c := 7) (tq := 100) (n := 5) dX7_lastMarkOf_9 4 3 tb_360 (by decide) (by decide) h0 (by decide) (by decide) (fun _ => rfl) (vr 100 (a0 + 3) 5) rfl ?_
    refine p_iload_n dX7_lastMarkOf_12 rfl 1 rfl ?_
    obtain ⟨c3, hf⟩ := hf
    refine p_iald dX7_lastMarkOf_13 (nnk h0 (by decide)) c3 ?_
    refine p_iconst dX7_lastMarkOf_14 (by decide) ?_
    refine p_isub dX7_lastMarkOf_15 ?_
    refine p_goto (tgt := 20) dX7_lastMarkOf_16 (by decide) ?_
    refine p_sub (ls' := []) [] rfl ?_
    exact t_X7_lastMarkOf_20 h0  _ _ hf
theorem ok_X7_lastMarkOf : mOK M_X7_lastMarkOf 1 := ⟨tb_554, tb_10, by decide +kernel⟩
abbrev M_X7_leastOf : MD := (yX7_leastOf, cX7_leastOf, 4, some .int)
abbrev rm_X7_leastOf : Room := { frames := 3, cells := 0, slots := 0, locals := 65 }
def w_X7_leastOf_9 (K : Int → Hh → Prop) (a0 : Int) : Nat → Int → Int → Int → Hh → Prop
  | 0, _, _, _, _ => False
  | n + 1, v1, v2, v3, h => w_X7_lastMarkOf a0 v1 h (fun r3 h4 => if v3 > r3 then (K v2 h4) else (w_X7_signedOf a0 v1 v3 h4 (fun r5 h6 => w_J9_min_7cf53 v2 r5 h6 (fun r7 h8 => vb (w32 (v3 + 1)) fun z9 => w_X7_leastOf_9 K  a0 n v1 r7 z9 h8))))
set_option maxRecDepth 100000 in
set_option maxHeartbeats 4000000 in
theorem t_X7_leastOf_9 {G : Gx} {n0 : Int} {K : Int → Hh → Prop} {a0 : Int} (h0 : 0 ≤ a0) : ∀ (n : Nat) (v1 v2 v3 : Int) (h : Hh), w_X7_leastOf_9 K  a0 n v1 v2 v3 h → PW G M_X7_leastOf rm_X7_leastOf 0 0 [] n0 K 9 [(0, vr 7 a0 0), (1, vi v1), (2, vi v2), (3, vi v3)] [] [] 0 0 h := by
  intro n
  induction n with
  | zero =>
    intro v1 v2 v3 h hf
    rw [w_X7_leastOf_9] at hf
    exact hf.elim
  | succ n ih =>
    intro v1 v2 v3 h hf
    rw [w_X7_leastOf_9] at hf
    refine p_iload_n dX7_leastOf_9 rfl 3 rfl ?_
    refine p_aload_n dX7_leastOf_10 rfl 0 rfl ?_
    refine p_iload_n dX7_leastOf_11 rfl 1 rfl ?_
    refine p_callVi dX7_leastOf_12 M_X7_lastMarkOf (Or.inl rfl) [vi v1] (t_X7_lastMarkOf _ _ _ _ h0 hf) ok_X7_lastMarkOf rfl (c := 7) (by decide) h0 rfl tb_551 ⟨tb_553, ts_25⟩ rfl (Nat.le_of_ble_eq_true rfl) ⟨rfl, rfl⟩ ⟨by decide, by decide⟩ ⟨by decide, by decide⟩ (fun r3 h4 hf => ?_)
    refine p_icmp_gt (tgt := 35) (q := v3 > r3) dX7_leastOf_15 (by decide) Iff.rfl (fun hc => ?_) (fun hc => ?_)
    · replace hf := Eq.mp (if_pos hc) hf
      refine p_iload_n dX7_leastOf_35 rfl 2 rfl ?_
      exact p_iret dX7_leastOf_36 rfl (by decide) (by decide) (fun _ h => absurd h List.not_mem_nil) hf
    · replace hf := Eq.mp (if_neg hc) hf
      refine p_iload_n dX7_leastOf_18 rfl 2 rfl ?_
      refine p_aload_n dX7_leastOf_19 rfl 0 rfl ?_
      refine p_iload_n dX7_leastOf_20 rfl 1 rfl ?_
      refine p_iload_n dX7_leastOf_21 rfl 3 rfl ?_
      refine p_callVi dX7_leastOf_22 M_X7_signedOf (Or.inl rfl) [vi v1, vi v3] (t_X7_signedOf _ _ _ _ _ h0 hf) ok_X7_signedOf rfl (c := 7) (by decide) h0 rfl tb_547 ⟨tb_549, ts_24⟩ rfl (Nat.le_of_ble_eq_true rfl) ⟨rfl, rfl⟩ ⟨by decide, by decide⟩ ⟨by decide, by decide⟩ (fun r5 h6 hf => ?_)
      refine p_callSi dX7_leastOf_25 M_J9_min_7cf53 (Or.inl rfl) [vi v2, vi r5] (t_J9_min_7cf53 _ _ _ _ hf) ok_J9_min_7cf53 rfl tb_555 tb_471 rfl (Nat.le_of_ble_eq_true rfl) ⟨rfl, rfl⟩ ⟨by decide, by decide⟩ ⟨by decide, by decide⟩ (fun r7 h8 hf => ?_)
      refine p_istore_n (ls' := [(2, vi r7), (0, vr 7 a0 0), (1, vi v1), (3, vi v3)]) dX7_leastOf_28 rfl (by decide) rfl ?_
      refine p_iinc (ls' := [(3, vi (w32 (v3 + 1))), (2, vi r7), (0, vr 7 a0 0), (1, vi v1)]) dX7_leastOf_29 3 rfl (by decide) rfl ?_
      replace hf := vb_e hf
      generalize w32 (v3 + 1) = z9 at hf ⊢
      refine p_goto (tgt := 9) dX7_leastOf_32 (by decide) ?_
      refine p_sub (ls' := [(0, vr 7 a0 0), (1, vi v1), (2, vi r7), (3, vi z9)]) [2, 3, 1, 0] rfl ?_
      exact ih _ _ _ _ hf
def w_X7_leastOf (a0 x1 : Int) (h : Hh) (K : Int → Hh → Prop) : Prop := w_X7_signedOf a0 x1 0 h (fun r1 h2 => w_X7_leastOf_9 K  a0 NF x1 r1 1 h2)
set_option maxRecDepth 100000 in
set_option maxHeartbeats 4000000 in
theorem t_X7_leastOf {G : Gx} (a0 x1 : Int) (h : Hh) (K : Int → Hh → Prop) (h0 : 0 ≤ a0) (hf : w_X7_leastOf a0 x1 h K) : CT G M_X7_leastOf rm_X7_leastOf 0 0 [] [vr 7 a0 0, vi x1] h K := by
  unfold w_X7_leastOf at hf
  refine CT.of (ls0 := [(0, vr 7 a0 0), (1, vi x1)]) (plainFor_of_name (by decide +kernel)) (by decide +kernel) (Nat.le_of_ble_eq_true rfl) rfl rfl ?_
  refine p_aload_n dX7_leastOf_0 rfl 0 rfl ?_
  refine p_iload_n dX7_leastOf_1 rfl 1 rfl ?_
  refine p_iconst dX7_leastOf_2 (by decide) ?_
  refine p_callVi dX7_leastOf_3 M_X7_signedOf (Or.inl rfl) [vi x1, vi 0] (t_X7_signedOf _ _ _ _ _ h0 hf) ok_X7_signedOf rfl (c := 7) (by decide) h0 rfl tb_547 ⟨tb_549, ts_24⟩ rfl (Nat.le_of_ble_eq_true rfl) ⟨rfl, rfl⟩ ⟨by decide, by decide⟩ ⟨by decide, by decide⟩ (fun r1 h2 hf => ?_)
  refine p_istore_n (ls' := [(2, vi r1), (0, vr 7 a0 0), (1, vi x1)]) dX7_leastOf_6 rfl (by decide) rfl ?_
  refine p_iconst dX7_leastOf_7 (by decide) ?_
  refine p_istore_n (ls' := [(3, vi 1), (2, vi r1), (0, vr 7 a0 0), (1, vi x1)]) dX7_leastOf_8 rfl (by decide) rfl ?_
  refine p_sub (ls' := [(0, vr 7 a0 0), (1, vi x1), (2, vi r1), (3, vi 1)]) [2, 3, 1, 0] rfl ?_
  refine t_X7_leastOf_9 h0  NF _ _ _ _ hf
theorem ok_X7_leastOf : mOK M_X7_leastOf 1 := ⟨tb_546, tb_10, by decide +kernel⟩
abbrev M_J9_max_7cf53 : MD := (yJ9_max_7cf53, cJ9_max_7cf53, 2, some .int)
abbrev rm_J9_max_7cf53 : Room := { frames := 0, cells := 0, slots := 0, locals := 0 }
def w_J9_max_7cf53_10 (K : Int → Hh → Prop) (s0 : Int) (h : Hh) : Prop := K s0 h
set_option maxRecDepth 100000 in
set_option maxHeartbeats 4000000 in
theorem t_J9_max_7cf53_10 {G : Gx} {n0 : Int} {K : Int → Hh → Prop}  (s0 : Int) (h : Hh) (hf : w_J9_max_7cf53_10 K   s0 h) : PW G M_J9_max_7cf53 rm_J9_max_7cf53 0 0 [] n0 K 10 [] [vi s0] [] 0 0 h := by
  unfold w_J9_max_7cf53_10 at hf
  exact p_iret dJ9_max_7cf53_10 rfl (by decide) (by decide) (fun _ h => absurd h List.not_mem_nil) hf
def w_J9_max_7cf53 (x0 x1 : Int) (h : Hh) (K : Int → Hh → Prop) : Prop := if x0 < x1 then (w_J9_max_7cf53_10 K   x1 h) else (w_J9_max_7cf53_10 K   x0 h)
set_option maxRecDepth 100000 in
set_option maxHeartbeats 4000000 in
theorem t_J9_max_7cf53 {G : Gx} (x0 x1 : Int) (h : Hh) (K : Int → Hh → Prop) (hf : w_J9_max_7cf53 x0 x1 h K) : CT G M_J9_max_7cf53 rm_J9_max_7cf53 0 0 [] [vi x0, vi x1] h K := by
  unfold w_J9_max_7cf53 at hf
  refine CT.of (ls0 := [(0, vi x0), (1, vi x1)]) (by decide +kernel) (by decide +kernel) (Nat.le_of_ble_eq_true rfl) rfl rfl ?_
  refine p_iload_n dJ9_max_7cf53_0 rfl 0 rfl ?_
  refine p_iload_n dJ9_max_7cf53_1 rfl 1 rfl ?_
  refine p_icmp_lt (tgt := 9) (q := x0 < x1) dJ9_max_7cf53_2 (by decide) Iff.rfl (fun hc => ?_) (fun hc => ?_)
  · replace hf := Eq.mp (if_pos hc) hf
    refine p_iload_n dJ9_max_7cf53_9 rfl 1 rfl ?_
    refine p_sub (ls' := []) [] rfl ?_
    exact t_J9_max_7cf53_10  _ _ hf
  · replace hf := Eq.mp (if_neg hc) hf
    refine p_iload_n dJ9_max_7cf53_5 rfl 0 rfl ?_
    refine p_goto (tgt := 10) dJ9_max_7cf53_6 (by decide) ?_
    refine p_sub (ls' := []) [] rfl ?_
    exact t_J9_max_7cf53_10  _ _ hf
theorem ok_J9_max_7cf53 : mOK M_J9_max_7cf53 2 := ⟨tb_562, tb_11, by decide +kernel⟩
abbrev M_X7_greatestOf : MD := (yX7_greatestOf, cX7_greatestOf, 4, some .int)
abbrev rm_X7_greatestOf : Room := { frames := 3, cells := 0, slots := 0, locals := 65 }
def w_X7_greatestOf_9 (K : Int → Hh → Prop) (a0 : Int) : Nat → Int → Int → Int → Hh → Prop
  | 0, _, _, _, _ => False
  | n + 1, v1, v2, v3, h => w_X7_lastMarkOf a0 v1 h (fun r3 h4 => if v3 > r3 then (K v2 h4) else (w_X7_signedOf a0 v1 v3 h4 (fun r5 h6 => w_J9_max_7cf53 v2 r5 h6 (fun r7 h8 => vb (w32 (v3 + 1)) fun z9 => w_X7_greatestOf_9 K  a0 n v1 r7 z9 h8))))
set_option maxRecDepth 100000 in
set_option maxHeartbeats 4000000 in
theorem t_X7_greatestOf_9 {G : Gx} {n0 : Int} {K : Int → Hh → Prop} {a0 : Int} (h0 : 0 ≤ a0) : ∀ (n : Nat) (v1 v2 v3 : Int) (h : Hh), w_X7_greatestOf_9 K  a0 n v1 v2 v3 h → PW G M_X7_greatestOf rm_X7_greatestOf 0 0 [] n0 K 9 [(0, vr 7 a0 0), (1, vi v1), (2, vi v2), (3, vi v3)] [] [] 0 0 h := by
  intro n
  induction n with
  | zero =>
    intro v1 v2 v3 h hf
    rw [w_X7_greatestOf_9] at hf
    exact hf.elim
  | succ n ih =>
    intro v1 v2 v3 h hf
    rw [w_X7_greatestOf_9] at hf
    refine p_iload_n dX7_greatestOf_9 rfl 3 rfl ?_
    refine p_aload_n dX7_greatestOf_10 rfl 0 rfl ?_
    refine p_iload_n dX7_greatestOf_11 rfl 1 rfl ?_
    refine p_callVi dX7_greatestOf_12 M_X7_lastMarkOf (Or.inl rfl) [vi v1] (t_X7_lastMarkOf _ _ _ _ h0 hf) ok_X7_lastMarkOf rfl (c := 7) (by decide) h0 rfl tb_551 ⟨tb_553, ts_25⟩ rfl (Nat.le_of_ble_eq_true rfl) ⟨rfl, rfl⟩ ⟨by decide, by decide⟩ ⟨by decide, by decide⟩ (fun r3 h4 hf => ?_)
    refine p_icmp_gt (tgt := 35) (q := v3 > r3) dX7_greatestOf_15 (by decide) Iff.rfl (fun hc => ?_) (fun hc => ?_)
    · replace hf := Eq.mp (if_pos hc) hf
      refine p_iload_n dX7_greatestOf_35 rfl 2 rfl ?_
      exact p_iret dX7_greatestOf_36 rfl (by decide) (by decide) (fun _ h => absurd h List.not_mem_nil) hf
    · replace hf := Eq.mp (if_neg hc) hf
      refine p_iload_n dX7_greatestOf_18 rfl 2 rfl ?_
      refine p_aload_n dX7_greatestOf_19 rfl 0 rfl ?_
      refine p_iload_n dX7_greatestOf_20 rfl 1 rfl ?_
      refine p_iload_n dX7_greatestOf_21 rfl 3 rfl ?_
      refine p_callVi dX7_greatestOf_22 M_X7_signedOf (Or.inl rfl) [vi v1, vi v3] (t_X7_signedOf _ _ _ _ _ h0 hf) ok_X7_signedOf rfl (c := 7) (by decide) h0 rfl tb_547 ⟨tb_549, ts_24⟩ rfl (Nat.le_of_ble_eq_true rfl) ⟨rfl, rfl⟩ ⟨by decide, by decide⟩ ⟨by decide, by decide⟩ (fun r5 h6 hf => ?_)
      refine p_callSi dX7_greatestOf_25 M_J9_max_7cf53 (Or.inl rfl) [vi v2, vi r5] (t_J9_max_7cf53 _ _ _ _ hf) ok_J9_max_7cf53 rfl tb_560 tb_561 rfl (Nat.le_of_ble_eq_true rfl) ⟨rfl, rfl⟩ ⟨by decide, by decide⟩ ⟨by decide, by decide⟩ (fun r7 h8 hf => ?_)
      refine p_istore_n (ls' := [(2, vi r7), (0, vr 7 a0 0), (1, vi v1), (3, vi v3)]) dX7_greatestOf_28 rfl (by decide) rfl ?_
      refine p_iinc (ls' := [(3, vi (w32 (v3 + 1))), (2, vi r7), (0, vr 7 a0 0), (1, vi v1)]) dX7_greatestOf_29 3 rfl (by decide) rfl ?_
      replace hf := vb_e hf
      generalize w32 (v3 + 1) = z9 at hf ⊢
      refine p_goto (tgt := 9) dX7_greatestOf_32 (by decide) ?_
      refine p_sub (ls' := [(0, vr 7 a0 0), (1, vi v1), (2, vi r7), (3, vi z9)]) [2, 3, 1, 0] rfl ?_
      exact ih _ _ _ _ hf
def w_X7_greatestOf (a0 x1 : Int) (h : Hh) (K : Int → Hh → Prop) : Prop := w_X7_signedOf a0 x1 0 h (fun r1 h2 => w_X7_greatestOf_9 K  a0 NF x1 r1 1 h2)
set_option maxRecDepth 100000 in
set_option maxHeartbeats 4000000 in
theorem t_X7_greatestOf {G : Gx} (a0 x1 : Int) (h : Hh) (K : Int → Hh → Prop) (h0 : 0 ≤ a0) (hf : w_X7_greatestOf a0 x1 h K) : CT G M_X7_greatestOf rm_X7_greatestOf 0 0 [] [vr 7 a0 0, vi x1] h K := by
  unfold w_X7_greatestOf at hf
  refine CT.of (ls0 := [(0, vr 7 a0 0), (1, vi x1)]) (plainFor_of_name (by decide +kernel)) (by decide +kernel) (Nat.le_of_ble_eq_true rfl) rfl rfl ?_
  refine p_aload_n dX7_greatestOf_0 rfl 0 rfl ?_
  refine p_iload_n dX7_greatestOf_1 rfl 1 rfl ?_
  refine p_iconst dX7_greatestOf_2 (by decide) ?_
  refine p_callVi dX7_greatestOf_3 M_X7_signedOf (Or.inl rfl) [vi x1, vi 0] (t_X7_signedOf _ _ _ _ _ h0 hf) ok_X7_signedOf rfl (c := 7) (by decide) h0 rfl tb_547 ⟨tb_549, ts_24⟩ rfl (Nat.le_of_ble_eq_true rfl) ⟨rfl, rfl⟩ ⟨by decide, by decide⟩ ⟨by decide, by decide⟩ (fun r1 h2 hf => ?_)
  refine p_istore_n (ls' := [(2, vi r1), (0, vr 7 a0 0), (1, vi x1)]) dX7_greatestOf_6 rfl (by decide) rfl ?_
  refine p_iconst dX7_greatestOf_7 (by decide) ?_
  refine p_istore_n (ls' := [(3, vi 1), (2, vi r1), (0, vr 7 a0 0), (1, vi x1)]) dX7_greatestOf_8 rfl (by decide) rfl ?_
  refine p_sub (ls' := [(0, vr 7 a0 0), (1, vi x1), (2, vi r1), (3, vi 1)]) [2, 3, 1, 0] rfl ?_
  refine t_X7_greatestOf_9 h0  NF _ _ _ _ hf
theorem ok_X7_greatestOf : mOK M_X7_greatestOf 1 := ⟨tb_559, tb_10, by decide +kernel⟩
abbrev M_X0_putOrder : MD := (yX0_putOrder, cX0_putOrder, 8, none)
abbrev rm_X0_putOrder : Room := { frames := 4, cells := 0, slots := 0, locals := 88 }
def w_X0_putOrder_9 (K : Int → Hh → Prop) (X34 : Hh → Prop) (a0 : Int) : Nat → Int → Int → Hh → Prop
  | 0, _, _, _ => False
  | n + 1, v2, v3, h => if v3 < 0 then (X34  h) else (((0 : Int) ≤ v3 ∧ (v3 : Int) < 4) ∧ (hb (up h (a0 + 1) v3 (Int.tmod v2 10)) fun h3 => vb (w32 (Int.tdiv v2 10)) fun z4 => vb (w32 (v3 + (-1))) fun z5 => w_X0_putOrder_9 K X34 a0 n z4 z5 h3))
set_option maxRecDepth 100000 in
set_option maxHeartbeats 4000000 in
theorem t_X0_putOrder_9 {G : Gx} {n0 : Int} {K : Int → Hh → Prop} {X34 : Hh → Prop} {a0 : Int} (h0 : 0 ≤ a0) (hX34 : ∀ (h : Hh), X34  h → PW G M_X0_putOrder rm_X0_putOrder 0 0 [] n0 K 34 [(0, vr 0 a0 0)] [] [] 0 0 h) : ∀ (n : Nat) (v2 v3 : Int) (h : Hh), w_X0_putOrder_9 K X34 a0 n v2 v3 h → PW G M_X0_putOrder rm_X0_putOrder 0 0 [] n0 K 9 [(0, vr 0 a0 0), (2, vi v2), (3, vi v3)] [] [] 0 0 h := by
  intro n
  induction n with
  | zero =>
    intro v2 v3 h hf
    rw [w_X0_putOrder_9] at hf
    exact hf.elim
  | succ n ih =>
    intro v2 v3 h hf
    rw [w_X0_putOrder_9] at hf
    refine p_iload_n dX0_putOrder_9 rfl 2 rfl ?_
    refine p_if_lt (tgt := 34) (q := v3 < 0) dX0_putOrder_10 (by decide) Iff.rfl (fun hc => ?_) (fun hc => ?_)
    · replace hf := Eq.mp (if_pos hc) hf
      refine p_sub (ls' := [(0, vr 0 a0 0)]) [0] rfl ?_
      exact hX34  _ hf
    · replace hf := Eq.mp (if_neg hc) hf
      refine p_aload_n dX0_putOrder_13 rfl 0 rfl ?_
      refine p_lay (c := 0) (tq := 100) (n := 4) dX0_putOrder_14 5 1 tb_502 (by decide) (by decide) h0 (by decide) (by decide) (fun _ => rfl) (vr 100 (a0 + 1) 4) rfl ?_
      refine p_iload_n dX0_putOrder_17 rfl 2 rfl ?_
      refine p_iload_n dX0_putOrder_18 rfl 1 rfl ?_
      refine p_bipush dX0_putOrder_19 (by decide) (by decide) ?_
      refine p_irem dX0_putOrder_21 (by decide) ?_
      obtain ⟨c2, hf⟩ := hf
      refine p_iast dX0_putOrder_22 (nnk h0 (by decide)) c2 ?_
      replace hf := hb_e hf
      generalize up h (a0 + 1) v3 (Int.tmod v2 10) = h3 at hf ⊢
      refine p_iload_n dX0_putOrder_23 rfl 1 rfl ?_
      refine p_bipush dX0_putOrder_24 (by decide) (by decide) ?_
      refine p_idiv dX0_putOrder_26 (by decide) ?_
      refine p_istore_n (ls' := [(2, vi (w32 (Int.tdiv v2 10))), (0, vr 0 a0 0), (3, vi v3)]) dX0_putOrder_27 rfl (by decide) rfl ?_
      replace hf := vb_e hf
      generalize (w32 (Int.tdiv v2 10)) = z4 at hf ⊢
      refine p_iinc (ls' := [(3, vi (w32 (v3 + (-1)))), (2, vi z4), (0, vr 0 a0 0)]) dX0_putOrder_28 2 rfl (by decide) rfl ?_
      replace hf := vb_e hf
      generalize w32 (v3 + (-1)) = z5 at hf ⊢
      refine p_goto (tgt := 9) dX0_putOrder_31 (by decide) ?_
      refine p_sub (ls' := [(0, vr 0 a0 0), (2, vi z4), (3, vi z5)]) [2, 1, 0] rfl ?_
      exact ih _ _ _ hf
def w_X0_putOrder_42 (K : Int → Hh → Prop) (a0 : Int) : Nat → Int → Int → Int → Hh → Prop
  | 0, _, _, _, _ => False
  | n + 1, v3, v5, v7, h => if v7 ≥ h a0 2 then (K 0 h) else (((0 : Int) ≤ v7 ∧ (v7 : Int) < 4) ∧ (0 ≤ h a0 0 ∧ (w_X7_leastOf (h a0 0) (h (a0 + 1) v7) h (fun r9 h10 => vb (w64 (v3 + r9)) fun z11 => 0 ≤ h10 a0 0 ∧ (w_X7_greatestOf (h10 a0 0) (h10 (a0 + 1) v7) h10 (fun r13 h14 => vb (w64 (v5 + r13)) fun z15 => hb (up h14 (a0 + 4) v7 z11) fun h16 => hb (up h16 (a0 + 5) v7 z15) fun h17 => vb (w32 (v7 + 1)) fun z18 => w_X0_putOrder_42 K  a0 n z11 z15 z18 h17))))))
set_option maxRecDepth 100000 in
set_option maxHeartbeats 4000000 in
theorem t_X0_putOrder_42 {G : Gx} {n0 : Int} {K : Int → Hh → Prop} {a0 : Int} (h0 : 0 ≤ a0) : ∀ (n : Nat) (v3 v5 v7 : Int) (h : Hh), w_X0_putOrder_42 K  a0 n v3 v5 v7 h → PW G M_X0_putOrder rm_X0_putOrder 0 0 [] n0 K 42 [(0, vr 0 a0 0), (3, vl v3), (5, vl v5), (7, vi v7)] [] [] 0 0 h := by
  intro n
  induction n with
  | zero =>
    intro v3 v5 v7 h hf
    rw [w_X0_putOrder_42] at hf
    exact hf.elim
  | succ n ih =>
    intro v3 v5 v7 h hf
    rw [w_X0_putOrder_42] at hf
    refine p_iload dX0_putOrder_42 3 rfl ?_
    refine p_aload_n dX0_putOrder_44 rfl 0 rfl ?_
    refine p_get (c := 0) (vi (h a0 2)) dX0_putOrder_45 2 tb_494 (by decide) (by decide) (Or.inl rfl) h0 rfl rfl ?_
    refine p_icmp_ge (tgt := 112) (q := v7 ≥ h a0 2) dX0_putOrder_48 (by decide) Iff.rfl (fun hc => ?_) (fun hc => ?_)
    · replace hf := Eq.mp (if_pos hc) hf
      exact p_vret dX0_putOrder_112 rfl (by decide) (by decide) (fun _ h => absurd h List.not_mem_nil) hf
    · replace hf := Eq.mp (if_neg hc) hf
      refine p_lload_n dX0_putOrder_51 rfl 1 rfl ?_
      refine p_aload_n dX0_putOrder_52 rfl 0 rfl ?_
      refine p_get (c := 0) (vr 7 (h a0 0) 0) dX0_putOrder_53 0 tb_489 (by decide) (by decide) (Or.inl rfl) h0 rfl rfl ?_
      refine p_aload_n dX0_putOrder_56 rfl 0 rfl ?_
      refine p_lay (c := 0) (tq := 100) (n := 4) dX0_putOrder_57 5 1 tb_502 (by decide) (by decide) h0 (by decide) (by decide) (fun _ => rfl) (vr 100 (a0 + 1) 4) rfl ?_
      refine p_iload dX0_putOrder_60 3 rfl ?_
      obtain ⟨c7, hf⟩ := hf
      refine p_iald dX0_putOrder_62 (nnk h0 (by decide)) c7 ?_
      obtain ⟨c8, hf⟩ := hf
      refine p_callVNi dX0_putOrder_63 M_X7_leastOf (Or.inl rfl) [vi (h (a0 + 1) v7)] (t_X7_leastOf _ _ _ _ c8 hf) ok_X7_leastOf rfl (c := 7) (by decide) c8 rfl tb_543 ⟨tb_545, ts_23⟩ rfl (Nat.le_of_ble_eq_true rfl) ⟨rfl, rfl⟩ ⟨by decide, by decide⟩ ⟨by decide, by decide⟩ (fun r9 h10 hf => ?_)
      refine p_i2l dX0_putOrder_66 ?_
      refine p_ladd dX0_putOrder_67 ?_
      refine p_lstore_n (ls' := [(3, vl (w64 (v3 + r9))), (0, vr 0 a0 0), (5, vl v5), (7, vi v7)]) dX0_putOrder_68 rfl (by decide) rfl ?_
      replace hf := vb_e hf
      generalize (w64 (v3 + r9)) = z11 at hf ⊢
      refine p_lload dX0_putOrder_69 2 rfl ?_
      refine p_aload_n dX0_putOrder_71 rfl 1 rfl ?_
      refine p_get (c := 0) (vr 7 (h10 a0 0) 0) dX0_putOrder_72 0 tb_489 (by decide) (by decide) (Or.inl rfl) h0 rfl rfl ?_
      refine p_aload_n dX0_putOrder_75 rfl 1 rfl ?_
      refine p_lay (c := 0) (tq := 100) (n := 4) dX0_putOrder_76 5 1 tb_502 (by decide) (by decide) h0 (by decide) (by decide) (fun _ => rfl) (vr 100 (a0 + 1) 4) rfl ?_
      refine p_iload dX0_putOrder_79 3 rfl ?_
      refine p_iald dX0_putOrder_81 (nnk h0 (by decide)) c7 ?_
      obtain ⟨c12, hf⟩ := hf
      refine p_callVNi dX0_putOrder_82 M_X7_greatestOf (Or.inl rfl) [vi (h10 (a0 + 1) v7)] (t_X7_greatestOf _ _ _ _ c12 hf) ok_X7_greatestOf rfl (c := 7) (by decide) c12 rfl tb_556 ⟨tb_558, ts_26⟩ rfl (Nat.le_of_ble_eq_true rfl) ⟨rfl, rfl⟩ ⟨by decide, by decide⟩ ⟨by decide, by decide⟩ (fun r13 h14 hf => ?_)
      refine p_i2l dX0_putOrder_85 ?_
      refine p_ladd dX0_putOrder_86 ?_
      refine p_lstore (ls' := [(5, vl (w64 (v5 + r13))), (3, vl z11), (0, vr 0 a0 0), (7, vi v7)]) dX0_putOrder_87 (by decide) rfl ?_
      replace hf := vb_e hf
      generalize (w64 (v5 + r13)) = z15 at hf ⊢
      refine p_aload_n dX0_putOrder_89 rfl 2 rfl ?_
      refine p_lay (c := 0) (tq := 101) (n := 4) dX0_putOrder_90 8 4 tb_511 (by decide) (by decide) h0 (by decide) (by decide) (fun _ => rfl) (vr 101 (a0 + 4) 4) rfl ?_
      refine p_iload dX0_putOrder_93 3 rfl ?_
      refine p_lload_n dX0_putOrder_95 rfl 1 rfl ?_
      refine p_last dX0_putOrder_96 (nnk h0 (by decide)) c7 ?_
      replace hf := hb_e hf
      generalize up h14 (a0 + 4) v7 z11 = h16 at hf ⊢
      refine p_aload_n dX0_putOrder_97 rfl 2 rfl ?_
      refine p_lay (c := 0) (tq := 101) (n := 4) dX0_putOrder_98 9 5 tb_512 (by decide) (by decide) h0 (by decide) (by decide) (fun _ => rfl) (vr 101 (a0 + 5) 4) rfl ?_
      refine p_iload dX0_putOrder_101 3 rfl ?_
      refine p_lload dX0_putOrder_103 0 rfl ?_
      refine p_last dX0_putOrder_105 (nnk h0 (by decide)) c7 ?_
      replace hf := hb_e hf
      generalize up h16 (a0 + 5) v7 z15 = h17 at hf ⊢
      refine p_iinc (ls' := [(7, vi (w32 (v7 + 1))), (5, vl z15), (3, vl z11), (0, vr 0 a0 0)]) dX0_putOrder_106 3 rfl (by decide) rfl ?_
      replace hf := vb_e hf
      generalize w32 (v7 + 1) = z18 at hf ⊢
      refine p_goto (tgt := 42) dX0_putOrder_109 (by decide) ?_
      refine p_sub (ls' := [(0, vr 0 a0 0), (3, vl z11), (5, vl z15), (7, vi z18)]) [3, 2, 1, 0] rfl ?_
      exact ih _ _ _ _ hf
def w_X0_putOrder (a0 x1 : Int) (h : Hh) (K : Int → Hh → Prop) : Prop := vb (w32 ((h a0 2) - 1)) fun z1 => w_X0_putOrder_9 K (fun h6 => w_X0_putOrder_42 K  a0 NF 0 0 0 h6) a0 NF x1 z1 h
set_option maxRecDepth 100000 in
set_option maxHeartbeats 4000000 in
theorem t_X0_putOrder {G : Gx} (a0 x1 : Int) (h : Hh) (K : Int → Hh → Prop) (h0 : 0 ≤ a0) (hf : w_X0_putOrder a0 x1 h K) : CT G M_X0_putOrder rm_X0_putOrder 0 0 [] [vr 0 a0 0, vi x1] h K := by
  unfold w_X0_putOrder at hf
  refine CT.of (ls0 := [(0, vr 0 a0 0), (1, vi x1)]) (plainFor_of_name (by decide +kernel)) (by decide +kernel) (Nat.le_of_ble_eq_true rfl) rfl rfl ?_
  refine p_iload_n dX0_putOrder_0 rfl 1 rfl ?_
  refine p_istore_n (ls' := [(2, vi x1), (0, vr 0 a0 0), (1, vi x1)]) dX0_putOrder_1 rfl (by decide) rfl ?_
  refine p_aload_n dX0_putOrder_2 rfl 1 rfl ?_
  refine p_get (c := 0) (vi (h a0 2)) dX0_putOrder_3 2 tb_494 (by decide) (by decide) (Or.inl rfl) h0 rfl rfl ?_
  refine p_iconst dX0_putOrder_6 (by decide) ?_
  refine p_isub dX0_putOrder_7 ?_
  refine p_istore_n (ls' := [(3, vi (w32 ((h a0 2) - 1))), (2, vi x1), (0, vr 0 a0 0), (1, vi x1)]) dX0_putOrder_8 rfl (by decide) rfl ?_
  replace hf := vb_e hf
  generalize (w32 ((h a0 2) - 1)) = z1 at hf ⊢
  refine p_sub (ls' := [(0, vr 0 a0 0), (2, vi x1), (3, vi z1)]) [2, 1, 0] rfl ?_
  refine t_X0_putOrder_9 h0 ?_ NF _ _ _ hf
  · intro h6 hf
    refine p_lconst (z := 0) dX0_putOrder_34 rfl ?_
    refine p_lstore_n (ls' := [(3, vl 0), (0, vr 0 a0 0)]) dX0_putOrder_35 rfl (by decide) rfl ?_
    refine p_lconst (z := 0) dX0_putOrder_36 rfl ?_
    refine p_lstore (ls' := [(5, vl 0), (3, vl 0), (0, vr 0 a0 0)]) dX0_putOrder_37 (by decide) rfl ?_
    refine p_iconst dX0_putOrder_39 (by decide) ?_
    refine p_istore (ls' := [(7, vi 0), (5, vl 0), (3, vl 0), (0, vr 0 a0 0)]) dX0_putOrder_40 (by decide) rfl ?_
    refine p_sub (ls' := [(0, vr 0 a0 0), (3, vl 0), (5, vl 0), (7, vi 0)]) [3, 2, 1, 0] rfl ?_
    refine t_X0_putOrder_42 h0  NF _ _ _ _ hf
theorem ok_X0_putOrder : mOK M_X0_putOrder 1 := ⟨tb_542, tb_12, by decide +kernel⟩
abbrev M_X0_hasPage : MD := (yX0_hasPage, cX0_hasPage, 2, some .boolean)
abbrev rm_X0_hasPage : Room := { frames := 0, cells := 0, slots := 0, locals := 0 }
def w_X0_hasPage_17 (K : Int → Hh → Prop) (a0 : Int) (s0 : Int) (h : Hh) : Prop := (s0 = 0 ∨ s0 = 1) ∧ (K s0 h)
set_option maxRecDepth 100000 in
set_option maxHeartbeats 4000000 in
theorem t_X0_hasPage_17 {G : Gx} {n0 : Int} {K : Int → Hh → Prop} {a0 : Int} (h0 : 0 ≤ a0)  (s0 : Int) (h : Hh) (hf : w_X0_hasPage_17 K  a0 s0 h) : PW G M_X0_hasPage rm_X0_hasPage 0 0 [] n0 K 17 [] [vi s0] [] 0 0 h := by
  unfold w_X0_hasPage_17 at hf
  obtain ⟨c1, hf⟩ := hf
  exact p_zret dX0_hasPage_17 rfl (by decide) (by decide) (fun _ h => absurd h List.not_mem_nil) c1 hf
def w_X0_hasPage_16 (K : Int → Hh → Prop) (a0 : Int) (h : Hh) : Prop := w_X0_hasPage_17 K  a0 0 h
set_option maxRecDepth 100000 in
set_option maxHeartbeats 4000000 in
theorem t_X0_hasPage_16 {G : Gx} {n0 : Int} {K : Int → Hh → Prop} {a0 : Int} (h0 : 0 ≤ a0)  (h : Hh) (hf : w_X0_hasPage_16 K  a0  h) : PW G M_X0_hasPage rm_X0_hasPage 0 0 [] n0 K 16 [] [] [] 0 0 h := by
  unfold w_X0_hasPage_16 at hf
  refine p_iconst dX0_hasPage_16 (by decide) ?_
  exact t_X0_hasPage_17 h0  _ _ hf
def w_X0_hasPage (a0 x1 : Int) (h : Hh) (K : Int → Hh → Prop) : Prop := if x1 < 0 then (w_X0_hasPage_16 K  a0  h) else (if x1 ≥ h a0 3 then (w_X0_hasPage_16 K  a0  h) else (w_X0_hasPage_17 K  a0 1 h))
set_option maxRecDepth 100000 in
set_option maxHeartbeats 4000000 in
theorem t_X0_hasPage {G : Gx} (a0 x1 : Int) (h : Hh) (K : Int → Hh → Prop) (h0 : 0 ≤ a0) (hf : w_X0_hasPage a0 x1 h K) : CT G M_X0_hasPage rm_X0_hasPage 0 0 [] [vr 0 a0 0, vi x1] h K := by
  unfold w_X0_hasPage at hf
  refine CT.of (ls0 := [(0, vr 0 a0 0), (1, vi x1)]) (plainFor_of_name (by decide +kernel)) (by decide +kernel) (Nat.le_of_ble_eq_true rfl) rfl rfl ?_
  refine p_iload_n dX0_hasPage_0 rfl 1 rfl ?_
  refine p_if_lt (tgt := 16) (q := x1 < 0) dX0_hasPage_1 (by decide) Iff.rfl (fun hc => ?_) (fun hc => ?_)
  · replace hf := Eq.mp (if_pos hc) hf
    refine p_sub (ls' := []) [] rfl ?_
    exact t_X0_hasPage_16 h0   _ hf
  · replace hf := Eq.mp (if_neg hc) hf
    refine p_iload_n dX0_hasPage_4 rfl 1 rfl ?_
    refine p_aload_n dX0_hasPage_5 rfl 0 rfl ?_
    refine p_get (c := 0) (vi (h a0 3)) dX0_hasPage_6 3 tb_498 (by decide) (by decide) (Or.inl rfl) h0 rfl rfl ?_
    refine p_icmp_ge (tgt := 16) (q := x1 ≥ h a0 3) dX0_hasPage_9 (by decide) Iff.rfl (fun hc => ?_) (fun hc => ?_)
    · replace hf := Eq.mp (if_pos hc) hf
      refine p_sub (ls' := []) [] rfl ?_
      exact t_X0_hasPage_16 h0   _ hf
    · replace hf := Eq.mp (if_neg hc) hf
      refine p_iconst dX0_hasPage_12 (by decide) ?_
      refine p_goto (tgt := 17) dX0_hasPage_13 (by decide) ?_
      refine p_sub (ls' := []) [] rfl ?_
      exact t_X0_hasPage_17 h0  _ _ hf
theorem ok_X0_hasPage : mOK M_X0_hasPage 1 := ⟨tb_570, tb_12, by decide +kernel⟩
abbrev M_X0_putModuli : MD := (yX0_putModuli, cX0_putModuli, 3, none)
abbrev rm_X0_putModuli : Room := { frames := 1, cells := 0, slots := 0, locals := 21 }
def w_X0_putModuli_28 (K : Int → Hh → Prop) (a0 : Int) (h : Hh) : Prop := K 0 h
set_option maxRecDepth 100000 in
set_option maxHeartbeats 4000000 in
theorem t_X0_putModuli_28 {G : Gx} {n0 : Int} {K : Int → Hh → Prop} {a0 : Int} (h0 : 0 ≤ a0)  (h : Hh) (hf : w_X0_putModuli_28 K  a0  h) : PW G M_X0_putModuli rm_X0_putModuli 0 0 [] n0 K 28 [] [] [] 0 0 h := by
  unfold w_X0_putModuli_28 at hf
  exact p_vret dX0_putModuli_28 rfl (by decide) (by decide) (fun _ h => absurd h List.not_mem_nil) hf
def w_X0_putModuli (a0 x1 x2 : Int) (h : Hh) (K : Int → Hh → Prop) : Prop := w_X0_hasPage a0 x1 h (fun r1 h2 => if r1 = 0 then (w_X0_putModuli_28 K  a0  h2) else (((0 : Int) ≤ x1 ∧ (x1 : Int) < 3) ∧ (hb (up h2 (a0 + 2) x1 (w32 (Int.tdiv x2 100))) fun h4 => hb (up h4 (a0 + 3) x1 (Int.tmod x2 100)) fun h5 => w_X0_putModuli_28 K  a0  h5)))
set_option maxRecDepth 100000 in
set_option maxHeartbeats 4000000 in
theorem t_X0_putModuli {G : Gx} (a0 x1 x2 : Int) (h : Hh) (K : Int → Hh → Prop) (h0 : 0 ≤ a0) (hf : w_X0_putModuli a0 x1 x2 h K) : CT G M_X0_putModuli rm_X0_putModuli 0 0 [] [vr 0 a0 0, vi x1, vi x2] h K := by
  unfold w_X0_putModuli at hf
  refine CT.of (ls0 := [(0, vr 0 a0 0), (1, vi x1), (2, vi x2)]) (plainFor_of_name (by decide +kernel)) (by decide +kernel) (Nat.le_of_ble_eq_true rfl) rfl rfl ?_
  refine p_aload_n dX0_putModuli_0 rfl 0 rfl ?_
  refine p_iload_n dX0_putModuli_1 rfl 1 rfl ?_
  refine p_callVi dX0_putModuli_2 M_X0_hasPage (Or.inr rfl) [vi x1] (t_X0_hasPage _ _ _ _ h0 hf) ok_X0_hasPage rfl (c := 0) (by decide) h0 rfl tb_567 ⟨tb_569, ts_28⟩ rfl (Nat.le_of_ble_eq_true rfl) ⟨rfl, rfl⟩ ⟨by decide, by decide⟩ ⟨by decide, by decide⟩ (fun r1 h2 hf => ?_)
  refine p_if_eq (tgt := 28) (q := r1 = 0) dX0_putModuli_5 (by decide) Iff.rfl (fun hc => ?_) (fun hc => ?_)
  · replace hf := Eq.mp (if_pos hc) hf
    refine p_sub (ls' := []) [] rfl ?_
    exact t_X0_putModuli_28 h0   _ hf
  · replace hf := Eq.mp (if_neg hc) hf
    refine p_aload_n dX0_putModuli_8 rfl 0 rfl ?_
    refine p_lay (c := 0) (tq := 100) (n := 3) dX0_putModuli_9 6 2 tb_505 (by decide) (by decide) h0 (by decide) (by decide) (fun _ => rfl) (vr 100 (a0 + 2) 3) rfl ?_
    refine p_iload_n dX0_putModuli_12 rfl 1 rfl ?_
    refine p_iload_n dX0_putModuli_13 rfl 2 rfl ?_
    refine p_bipush dX0_putModuli_14 (by decide) (by decide) ?_
    refine p_idiv dX0_putModuli_16 (by decide) ?_
    obtain ⟨c3, hf⟩ := hf
    refine p_iast dX0_putModuli_17 (nnk h0 (by decide)) c3 ?_
    replace hf := hb_e hf
    generalize up h2 (a0 + 2) x1 (w32 (Int.tdiv x2 100)) = h4 at hf ⊢
    refine p_aload_n dX0_putModuli_18 rfl 0 rfl ?_
    refine p_lay (c := 0) (tq := 100) (n := 3) dX0_putModuli_19 7 3 tb_508 (by decide) (by decide) h0 (by decide) (by decide) (fun _ => rfl) (vr 100 (a0 + 3) 3) rfl ?_
    refine p_iload_n dX0_putModuli_22 rfl 1 rfl ?_
    refine p_iload_n dX0_putModuli_23 rfl 2 rfl ?_
    refine p_bipush dX0_putModuli_24 (by decide) (by decide) ?_
    refine p_irem dX0_putModuli_26 (by decide) ?_
    refine p_iast dX0_putModuli_27 (nnk h0 (by decide)) c3 ?_
    replace hf := hb_e hf
    generalize up h4 (a0 + 3) x1 (Int.tmod x2 100) = h5 at hf ⊢
    refine p_sub (ls' := []) [] rfl ?_
    exact t_X0_putModuli_28 h0   _ hf
theorem ok_X0_putModuli : mOK M_X0_putModuli 2 := ⟨tb_566, tb_12, by decide +kernel⟩
abbrev M_X0_hasMarks : MD := (yX0_hasMarks, cX0_hasMarks, 4, some .boolean)
abbrev rm_X0_hasMarks : Room := { frames := 2, cells := 0, slots := 0, locals := 43 }
def w_X0_hasMarks_15 (K : Int → Hh → Prop) (X52 : Int → Hh → Prop) (a0 : Int) : Nat → Int → Int → Hh → Prop
  | 0, _, _, _ => False
  | n + 1, v2, v3, h => if v3 < 0 then (X52 v2 h) else (((0 : Int) ≤ v3 ∧ (v3 : Int) < 4) ∧ (0 ≤ h a0 0 ∧ (w_X7_hasMark (h a0 0) (h (a0 + 1) v3) (Int.tmod v2 100) h (fun r4 h5 => if r4 ≠ 0 then (vb (w32 (Int.tdiv v2 100)) fun z6 => vb (w32 (v3 + (-1))) fun z7 => w_X0_hasMarks_15 K X52 a0 n z6 z7 h5) else (K 0 h5)))))
set_option maxRecDepth 100000 in
set_option maxHeartbeats 4000000 in
theorem t_X0_hasMarks_15 {G : Gx} {n0 : Int} {K : Int → Hh → Prop} {X52 : Int → Hh → Prop} {a0 : Int} (h0 : 0 ≤ a0) (hX52 : ∀ (v2 : Int) (h : Hh), X52 v2 h → PW G M_X0_hasMarks rm_X0_hasMarks 0 0 [] n0 K 52 [(2, vi v2)] [] [] 0 0 h) : ∀ (n : Nat) (v2 v3 : Int) (h : Hh), w_X0_hasMarks_15 K X52 a0 n v2 v3 h → PW G M_X0_hasMarks rm_X0_hasMarks 0 0 [] n0 K 15 [(0, vr 0 a0 0), (2, vi v2), (3, vi v3)] [] [] 0 0 h := by
  intro n
  induction n with
  | zero =>
    intro v2 v3 h hf
    rw [w_X0_hasMarks_15] at hf
    exact hf.elim
  | succ n ih =>
    intro v2 v3 h hf
    rw [w_X0_hasMarks_15] at hf
    refine p_iload_n dX0_hasMarks_15 rfl 2 rfl ?_
    refine p_if_lt (tgt := 52) (q := v3 < 0) dX0_hasMarks_16 (by decide) Iff.rfl (fun hc => ?_) (fun hc => ?_)
    · replace hf := Eq.mp (if_pos hc) hf
      refine p_sub (ls' := [(2, vi v2)]) [1] rfl ?_
      exact hX52 _ _ hf
    · replace hf := Eq.mp (if_neg hc) hf
      refine p_aload_n dX0_hasMarks_19 rfl 0 rfl ?_
      refine p_get (c := 0) (vr 7 (h a0 0) 0) dX0_hasMarks_20 0 tb_489 (by decide) (by decide) (Or.inl rfl) h0 rfl rfl ?_
      refine p_aload_n dX0_hasMarks_23 rfl 0 rfl ?_
      refine p_lay (c := 0) (tq := 100) (n := 4) dX0_hasMarks_24 5 1 tb_502 (by decide) (by decide) h0 (by decide) (by decide) (fun _ => rfl) (vr 100 (a0 + 1) 4) rfl ?_
      refine p_iload_n dX0_hasMarks_27 rfl 2 rfl ?_
      obtain ⟨c2, hf⟩ := hf
      refine p_iald dX0_hasMarks_28 (nnk h0 (by decide)) c2 ?_
      refine p_iload_n dX0_hasMarks_29 rfl 1 rfl ?_
      refine p_bipush dX0_hasMarks_30 (by decide) (by decide) ?_
      refine p_irem dX0_hasMarks_32 (by decide) ?_
      obtain ⟨c3, hf⟩ := hf
      refine p_callVNi dX0_hasMarks_33 M_X7_hasMark (Or.inr rfl) [vi (h (a0 + 1) v3), vi (Int.tmod v2 100)] (t_X7_hasMark _ _ _ _ _ c3 hf) ok_X7_hasMark rfl (c := 7) (by decide) c3 rfl tb_583 ⟨tb_443, ts_18⟩ rfl (Nat.le_of_ble_eq_true rfl) ⟨rfl, rfl⟩ ⟨by decide, by decide⟩ ⟨by decide, by decide⟩ (fun r4 h5 hf => ?_)
      refine p_if_ne (tgt := 41) (q := r4 ≠ 0) dX0_hasMarks_36 (by decide) Iff.rfl (fun hc => ?_) (fun hc => ?_)
      · replace hf := Eq.mp (if_pos hc) hf
        refine p_iload_n dX0_hasMarks_41 rfl 1 rfl ?_
        refine p_bipush dX0_hasMarks_42 (by decide) (by decide) ?_
        refine p_idiv dX0_hasMarks_44 (by decide) ?_
        refine p_istore_n (ls' := [(2, vi (w32 (Int.tdiv v2 100))), (0, vr 0 a0 0), (3, vi v3)]) dX0_hasMarks_45 rfl (by decide) rfl ?_
        replace hf := vb_e hf
        generalize (w32 (Int.tdiv v2 100)) = z6 at hf ⊢
        refine p_iinc (ls' := [(3, vi (w32 (v3 + (-1)))), (2, vi z6), (0, vr 0 a0 0)]) dX0_hasMarks_46 2 rfl (by decide) rfl ?_
        replace hf := vb_e hf
        generalize w32 (v3 + (-1)) = z7 at hf ⊢
        refine p_goto (tgt := 15) dX0_hasMarks_49 (by decide) ?_
        refine p_sub (ls' := [(0, vr 0 a0 0), (2, vi z6), (3, vi z7)]) [2, 1, 0] rfl ?_
        exact ih _ _ _ hf
      · replace hf := Eq.mp (if_neg hc) hf
        refine p_iconst dX0_hasMarks_39 (by decide) ?_
        exact p_zret dX0_hasMarks_40 rfl (by decide) (by decide) (fun _ h => absurd h List.not_mem_nil) (Or.inl rfl) hf
def w_X0_hasMarks_61 (K : Int → Hh → Prop) (a0 : Int) (s0 : Int) (h : Hh) : Prop := (s0 = 0 ∨ s0 = 1) ∧ (K s0 h)
set_option maxRecDepth 100000 in
set_option maxHeartbeats 4000000 in
theorem t_X0_hasMarks_61 {G : Gx} {n0 : Int} {K : Int → Hh → Prop} {a0 : Int} (h0 : 0 ≤ a0)  (s0 : Int) (h : Hh) (hf : w_X0_hasMarks_61 K  a0 s0 h) : PW G M_X0_hasMarks rm_X0_hasMarks 0 0 [] n0 K 61 [] [vi s0] [] 0 0 h := by
  unfold w_X0_hasMarks_61 at hf
  obtain ⟨c10, hf⟩ := hf
  exact p_zret dX0_hasMarks_61 rfl (by decide) (by decide) (fun _ h => absurd h List.not_mem_nil) c10 hf
def w_X0_hasMarks (a0 x1 : Int) (h : Hh) (K : Int → Hh → Prop) : Prop := if x1 ≥ 0 then (vb (w32 ((h a0 2) - 1)) fun z1 => w_X0_hasMarks_15 K (fun u9 h8 => if u9 ≠ 0 then (w_X0_hasMarks_61 K  a0 0 h8) else (w_X0_hasMarks_61 K  a0 1 h8)) a0 NF x1 z1 h) else (K 0 h)
set_option maxRecDepth 100000 in
set_option maxHeartbeats 4000000 in
theorem t_X0_hasMarks {G : Gx} (a0 x1 : Int) (h : Hh) (K : Int → Hh → Prop) (h0 : 0 ≤ a0) (hf : w_X0_hasMarks a0 x1 h K) : CT G M_X0_hasMarks rm_X0_hasMarks 0 0 [] [vr 0 a0 0, vi x1] h K := by
  unfold w_X0_hasMarks at hf
  refine CT.of (ls0 := [(0, vr 0 a0 0), (1, vi x1)]) (plainFor_of_name (by decide +kernel)) (by decide +kernel) (Nat.le_of_ble_eq_true rfl) rfl rfl ?_
  refine p_iload_n dX0_hasMarks_0 rfl 1 rfl ?_
  refine p_if_ge (tgt := 6) (q := x1 ≥ 0) dX0_hasMarks_1 (by decide) Iff.rfl (fun hc => ?_) (fun hc => ?_)
  · replace hf := Eq.mp (if_pos hc) hf
    refine p_iload_n dX0_hasMarks_6 rfl 1 rfl ?_
    refine p_istore_n (ls' := [(2, vi x1), (0, vr 0 a0 0), (1, vi x1)]) dX0_hasMarks_7 rfl (by decide) rfl ?_
    refine p_aload_n dX0_hasMarks_8 rfl 1 rfl ?_
    refine p_get (c := 0) (vi (h a0 2)) dX0_hasMarks_9 2 tb_494 (by decide) (by decide) (Or.inl rfl) h0 rfl rfl ?_
    refine p_iconst dX0_hasMarks_12 (by decide) ?_
    refine p_isub dX0_hasMarks_13 ?_
    refine p_istore_n (ls' := [(3, vi (w32 ((h a0 2) - 1))), (2, vi x1), (0, vr 0 a0 0), (1, vi x1)]) dX0_hasMarks_14 rfl (by decide) rfl ?_
    replace hf := vb_e hf
    generalize (w32 ((h a0 2) - 1)) = z1 at hf ⊢
    refine p_sub (ls' := [(0, vr 0 a0 0), (2, vi x1), (3, vi z1)]) [2, 1, 0] rfl ?_
    refine t_X0_hasMarks_15 h0 ?_ NF _ _ _ hf
    · intro u9 h8 hf
      refine p_iload_n dX0_hasMarks_52 rfl 0 rfl ?_
      refine p_if_ne (tgt := 60) (q := u9 ≠ 0) dX0_hasMarks_53 (by decide) Iff.rfl (fun hc => ?_) (fun hc => ?_)
      · replace hf := Eq.mp (if_pos hc) hf
        refine p_iconst dX0_hasMarks_60 (by decide) ?_
        refine p_sub (ls' := []) [] rfl ?_
        exact t_X0_hasMarks_61 h0  _ _ hf
      · replace hf := Eq.mp (if_neg hc) hf
        refine p_iconst dX0_hasMarks_56 (by decide) ?_
        refine p_goto (tgt := 61) dX0_hasMarks_57 (by decide) ?_
        refine p_sub (ls' := []) [] rfl ?_
        exact t_X0_hasMarks_61 h0  _ _ hf
  · replace hf := Eq.mp (if_neg hc) hf
    refine p_iconst dX0_hasMarks_4 (by decide) ?_
    exact p_zret dX0_hasMarks_5 rfl (by decide) (by decide) (fun _ h => absurd h List.not_mem_nil) (Or.inl rfl) hf
theorem ok_X0_hasMarks : mOK M_X0_hasMarks 1 := ⟨tb_582, tb_12, by decide +kernel⟩
abbrev M_X0_markAt : MD := (yX0_markAt, cX0_markAt, 5, some .int)
abbrev rm_X0_markAt : Room := { frames := 0, cells := 0, slots := 0, locals := 0 }
def w_X0_markAt_10 (K : Int → Hh → Prop) (a0 : Int) : Nat → Int → Int → Int → Hh → Prop
  | 0, _, _, _, _ => False
  | n + 1, v2, v3, v4, h => if v4 ≤ v2 then (K (Int.tmod v3 100) h) else (vb (w32 (Int.tdiv v3 100)) fun z2 => vb (w32 (v4 + (-1))) fun z3 => w_X0_markAt_10 K  a0 n v2 z2 z3 h)
set_option maxRecDepth 100000 in
set_option maxHeartbeats 4000000 in
theorem t_X0_markAt_10 {G : Gx} {n0 : Int} {K : Int → Hh → Prop} {a0 : Int} (h0 : 0 ≤ a0) : ∀ (n : Nat) (v2 v3 v4 : Int) (h : Hh), w_X0_markAt_10 K  a0 n v2 v3 v4 h → PW G M_X0_markAt rm_X0_markAt 0 0 [] n0 K 10 [(2, vi v2), (3, vi v3), (4, vi v4)] [] [] 0 0 h := by
  intro n
  induction n with
  | zero =>
    intro v2 v3 v4 h hf
    rw [w_X0_markAt_10] at hf
    exact hf.elim
  | succ n ih =>
    intro v2 v3 v4 h hf
    rw [w_X0_markAt_10] at hf
    refine p_iload dX0_markAt_10 2 rfl ?_
    refine p_iload_n dX0_markAt_12 rfl 0 rfl ?_
    refine p_icmp_le (tgt := 27) (q := v4 ≤ v2) dX0_markAt_13 (by decide) Iff.rfl (fun hc => ?_) (fun hc => ?_)
    · replace hf := Eq.mp (if_pos hc) hf
      refine p_iload_n dX0_markAt_27 rfl 1 rfl ?_
      refine p_bipush dX0_markAt_28 (by decide) (by decide) ?_
      refine p_irem dX0_markAt_30 (by decide) ?_
      exact p_iret dX0_markAt_31 rfl (by decide) (by decide) (fun _ h => absurd h List.not_mem_nil) hf
    · replace hf := Eq.mp (if_neg hc) hf
      refine p_iload_n dX0_markAt_16 rfl 1 rfl ?_
      refine p_bipush dX0_markAt_17 (by decide) (by decide) ?_
      refine p_idiv dX0_markAt_19 (by decide) ?_
      refine p_istore_n (ls' := [(3, vi (w32 (Int.tdiv v3 100))), (2, vi v2), (4, vi v4)]) dX0_markAt_20 rfl (by decide) rfl ?_
      replace hf := vb_e hf
      generalize (w32 (Int.tdiv v3 100)) = z2 at hf ⊢
      refine p_iinc (ls' := [(4, vi (w32 (v4 + (-1)))), (3, vi z2), (2, vi v2)]) dX0_markAt_21 2 rfl (by decide) rfl ?_
      replace hf := vb_e hf
      generalize w32 (v4 + (-1)) = z3 at hf ⊢
      refine p_goto (tgt := 10) dX0_markAt_24 (by decide) ?_
      refine p_sub (ls' := [(2, vi v2), (3, vi z2), (4, vi z3)]) [2, 1, 0] rfl ?_
      exact ih _ _ _ _ hf
def w_X0_markAt (a0 x1 x2 : Int) (h : Hh) (K : Int → Hh → Prop) : Prop := vb (w32 ((h a0 2) - 1)) fun z1 => w_X0_markAt_10 K  a0 NF x2 x1 z1 h
set_option maxRecDepth 100000 in
set_option maxHeartbeats 4000000 in
theorem t_X0_markAt {G : Gx} (a0 x1 x2 : Int) (h : Hh) (K : Int → Hh → Prop) (h0 : 0 ≤ a0) (hf : w_X0_markAt a0 x1 x2 h K) : CT G M_X0_markAt rm_X0_markAt 0 0 [] [vr 0 a0 0, vi x1, vi x2] h K := by
  unfold w_X0_markAt at hf
  refine CT.of (ls0 := [(0, vr 0 a0 0), (1, vi x1), (2, vi x2)]) (plainFor_of_name (by decide +kernel)) (by decide +kernel) (Nat.le_of_ble_eq_true rfl) rfl rfl ?_
  refine p_iload_n dX0_markAt_0 rfl 1 rfl ?_
  refine p_istore_n (ls' := [(3, vi x1), (0, vr 0 a0 0), (1, vi x1), (2, vi x2)]) dX0_markAt_1 rfl (by decide) rfl ?_
  refine p_aload_n dX0_markAt_2 rfl 1 rfl ?_
  refine p_get (c := 0) (vi (h a0 2)) dX0_markAt_3 2 tb_494 (by decide) (by decide) (Or.inl rfl) h0 rfl rfl ?_
  refine p_iconst dX0_markAt_6 (by decide) ?_
  refine p_isub dX0_markAt_7 ?_
  refine p_istore (ls' := [(4, vi (w32 ((h a0 2) - 1))), (3, vi x1), (0, vr 0 a0 0), (1, vi x1), (2, vi x2)]) dX0_markAt_8 (by decide) rfl ?_
  replace hf := vb_e hf
  generalize (w32 ((h a0 2) - 1)) = z1 at hf ⊢
  refine p_sub (ls' := [(2, vi x2), (3, vi x1), (4, vi z1)]) [4, 1, 0] rfl ?_
  refine t_X0_markAt_10 h0  NF _ _ _ _ hf
theorem ok_X0_markAt : mOK M_X0_markAt 2 := ⟨tb_599, tb_12, by decide +kernel⟩
abbrev M_X0_midOf : MD := (yX0_midOf, cX0_midOf, 2, some .long)
abbrev rm_X0_midOf : Room := { frames := 1, cells := 0, slots := 0, locals := 21 }
def w_X0_midOf_24 (K : Int → Hh → Prop) (a0 : Int) (h : Hh) : Prop := K 0 h
set_option maxRecDepth 100000 in
set_option maxHeartbeats 4000000 in
theorem t_X0_midOf_24 {G : Gx} {n0 : Int} {K : Int → Hh → Prop} {a0 : Int} (h0 : 0 ≤ a0)  (h : Hh) (hf : w_X0_midOf_24 K  a0  h) : PW G M_X0_midOf rm_X0_midOf 0 0 [] n0 K 24 [] [] [] 0 0 h := by
  unfold w_X0_midOf_24 at hf
  refine p_lconst (z := 0) dX0_midOf_24 rfl ?_
  exact p_lret dX0_midOf_25 rfl (by decide) (by decide) (fun _ h => absurd h List.not_mem_nil) hf
def w_X0_midOf (a0 x1 : Int) (h : Hh) (K : Int → Hh → Prop) : Prop := w_X0_hasPage a0 x1 h (fun r1 h2 => if r1 = 0 then (w_X0_midOf_24 K  a0  h2) else (((0 : Int) ≤ x1 ∧ (x1 : Int) < 3) ∧ (if w32 ((h2 (a0 + 2) x1) + (h2 (a0 + 3) x1)) > 0 then ((w32 ((h2 (a0 + 2) x1) + (h2 (a0 + 3) x1)) ≠ 0) ∧ (K (w32 (Int.tdiv (w32 ((h2 a0 4) * (h2 (a0 + 2) x1))) (w32 ((h2 (a0 + 2) x1) + (h2 (a0 + 3) x1))))) h2)) else (w_X0_midOf_24 K  a0  h2))))
set_option maxRecDepth 100000 in
set_option maxHeartbeats 4000000 in
theorem t_X0_midOf {G : Gx} (a0 x1 : Int) (h : Hh) (K : Int → Hh → Prop) (h0 : 0 ≤ a0) (hf : w_X0_midOf a0 x1 h K) : CT G M_X0_midOf rm_X0_midOf 0 0 [] [vr 0 a0 0, vi x1] h K := by
  unfold w_X0_midOf at hf
  refine CT.of (ls0 := [(0, vr 0 a0 0), (1, vi x1)]) (plainFor_of_name (by decide +kernel)) (by decide +kernel) (Nat.le_of_ble_eq_true rfl) rfl rfl ?_
  refine p_aload_n dX0_midOf_0 rfl 0 rfl ?_
  refine p_iload_n dX0_midOf_1 rfl 1 rfl ?_
  refine p_callVi dX0_midOf_2 M_X0_hasPage (Or.inr rfl) [vi x1] (t_X0_hasPage _ _ _ _ h0 hf) ok_X0_hasPage rfl (c := 0) (by decide) h0 rfl tb_567 ⟨tb_569, ts_28⟩ rfl (Nat.le_of_ble_eq_true rfl) ⟨rfl, rfl⟩ ⟨by decide, by decide⟩ ⟨by decide, by decide⟩ (fun r1 h2 hf => ?_)
  refine p_if_eq (tgt := 24) (q := r1 = 0) dX0_midOf_5 (by decide) Iff.rfl (fun hc => ?_) (fun hc => ?_)
  · replace hf := Eq.mp (if_pos hc) hf
    refine p_sub (ls' := []) [] rfl ?_
    exact t_X0_midOf_24 h0   _ hf
  · replace hf := Eq.mp (if_neg hc) hf
    refine p_aload_n dX0_midOf_8 rfl 0 rfl ?_
    refine p_lay (c := 0) (tq := 100) (n := 3) dX0_midOf_9 6 2 tb_505 (by decide) (by decide) h0 (by decide) (by decide) (fun _ => rfl) (vr 100 (a0 + 2) 3) rfl ?_
    refine p_iload_n dX0_midOf_12 rfl 1 rfl ?_
    obtain ⟨c3, hf⟩ := hf
    refine p_iald dX0_midOf_13 (nnk h0 (by decide)) c3 ?_
    refine p_aload_n dX0_midOf_14 rfl 0 rfl ?_
    refine p_lay (c := 0) (tq := 100) (n := 3) dX0_midOf_15 7 3 tb_508 (by decide) (by decide) h0 (by decide) (by decide) (fun _ => rfl) (vr 100 (a0 + 3) 3) rfl ?_
    refine p_iload_n dX0_midOf_18 rfl 1 rfl ?_
    refine p_iald dX0_midOf_19 (nnk h0 (by decide)) c3 ?_
    refine p_iadd dX0_midOf_20 ?_
    refine p_if_gt (tgt := 26) (q := w32 ((h2 (a0 + 2) x1) + (h2 (a0 + 3) x1)) > 0) dX0_midOf_21 (by decide) Iff.rfl (fun hc => ?_) (fun hc => ?_)
    · replace hf := Eq.mp (if_pos hc) hf
      refine p_aload_n dX0_midOf_26 rfl 0 rfl ?_
      refine p_get (c := 0) (vi (h2 a0 4)) dX0_midOf_27 4 tb_501 (by decide) (by decide) (Or.inl rfl) h0 rfl rfl ?_
      refine p_aload_n dX0_midOf_30 rfl 0 rfl ?_
      refine p_lay (c := 0) (tq := 100) (n := 3) dX0_midOf_31 6 2 tb_505 (by decide) (by decide) h0 (by decide) (by decide) (fun _ => rfl) (vr 100 (a0 + 2) 3) rfl ?_
      refine p_iload_n dX0_midOf_34 rfl 1 rfl ?_
      refine p_iald dX0_midOf_35 (nnk h0 (by decide)) c3 ?_
      refine p_imul dX0_midOf_36 ?_
      refine p_aload_n dX0_midOf_37 rfl 0 rfl ?_
      refine p_lay (c := 0) (tq := 100) (n := 3) dX0_midOf_38 6 2 tb_505 (by decide) (by decide) h0 (by decide) (by decide) (fun _ => rfl) (vr 100 (a0 + 2) 3) rfl ?_
      refine p_iload_n dX0_midOf_41 rfl 1 rfl ?_
      refine p_iald dX0_midOf_42 (nnk h0 (by decide)) c3 ?_
      refine p_aload_n dX0_midOf_43 rfl 0 rfl ?_
      refine p_lay (c := 0) (tq := 100) (n := 3) dX0_midOf_44 7 3 tb_508 (by decide) (by decide) h0 (by decide) (by decide) (fun _ => rfl) (vr 100 (a0 + 3) 3) rfl ?_
      refine p_iload_n dX0_midOf_47 rfl 1 rfl ?_
      refine p_iald dX0_midOf_48 (nnk h0 (by decide)) c3 ?_
      refine p_iadd dX0_midOf_49 ?_
      obtain ⟨c4, hf⟩ := hf
      refine p_idiv dX0_midOf_50 c4 ?_
      refine p_i2l dX0_midOf_51 ?_
      exact p_lret dX0_midOf_52 rfl (by decide) (by decide) (fun _ h => absurd h List.not_mem_nil) hf
    · replace hf := Eq.mp (if_neg hc) hf
      refine p_sub (ls' := []) [] rfl ?_
      exact t_X0_midOf_24 h0   _ hf
theorem ok_X0_midOf : mOK M_X0_midOf 1 := ⟨tb_622, tb_12, by decide +kernel⟩
abbrev M_J9_floorDiv_f86c9 : MD := (yJ9_floorDiv_f86c9, cJ9_floorDiv_f86c9, 6, some .long)
abbrev rm_J9_floorDiv_f86c9 : Room := { frames := 0, cells := 0, slots := 0, locals := 0 }
def w_J9_floorDiv_f86c9_27 (K : Int → Hh → Prop) (v4 : Int) (h : Hh) : Prop := K v4 h
set_option maxRecDepth 100000 in
set_option maxHeartbeats 4000000 in
theorem t_J9_floorDiv_f86c9_27 {G : Gx} {n0 : Int} {K : Int → Hh → Prop}  (v4 : Int) (h : Hh) (hf : w_J9_floorDiv_f86c9_27 K   v4 h) : PW G M_J9_floorDiv_f86c9 rm_J9_floorDiv_f86c9 0 0 [] n0 K 27 [(4, vl v4)] [] [] 0 0 h := by
  unfold w_J9_floorDiv_f86c9_27 at hf
  refine p_lload dJ9_floorDiv_f86c9_27 0 rfl ?_
  exact p_lret dJ9_floorDiv_f86c9_29 rfl (by decide) (by decide) (fun _ h => absurd h List.not_mem_nil) hf
def w_J9_floorDiv_f86c9 (x0 x2 : Int) (h : Hh) (K : Int → Hh → Prop) : Prop := (x2 ≠ 0) ∧ (vb (w64 (Int.tdiv x0 x2)) fun z2 => if (i64 x0 ^^^ i64 x2).toInt ≥ 0 then (w_J9_floorDiv_f86c9_27 K   z2 h) else (if w64 (z2 * x2) = x0 then (w_J9_floorDiv_f86c9_27 K   z2 h) else (K (w64 (z2 - 1)) h)))
set_option maxRecDepth 100000 in
set_option maxHeartbeats 4000000 in
theorem t_J9_floorDiv_f86c9 {G : Gx} (x0 x2 : Int) (h : Hh) (K : Int → Hh → Prop) (hf : w_J9_floorDiv_f86c9 x0 x2 h K) : CT G M_J9_floorDiv_f86c9 rm_J9_floorDiv_f86c9 0 0 [] [vl x0, vl x2] h K := by
  unfold w_J9_floorDiv_f86c9 at hf
  refine CT.of (ls0 := [(0, vl x0), (2, vl x2)]) (by decide +kernel) (by decide +kernel) (Nat.le_of_ble_eq_true rfl) rfl rfl ?_
  refine p_lload_n dJ9_floorDiv_f86c9_0 rfl 0 rfl ?_
  refine p_lload_n dJ9_floorDiv_f86c9_1 rfl 1 rfl ?_
  obtain ⟨c1, hf⟩ := hf
  refine p_ldiv dJ9_floorDiv_f86c9_2 c1 ?_
  refine p_lstore (ls' := [(4, vl (w64 (Int.tdiv x0 x2))), (0, vl x0), (2, vl x2)]) dJ9_floorDiv_f86c9_3 (by decide) rfl ?_
  replace hf := vb_e hf
  generalize (w64 (Int.tdiv x0 x2)) = z2 at hf ⊢
  refine p_lload_n dJ9_floorDiv_f86c9_5 rfl 1 rfl ?_
  refine p_lload_n dJ9_floorDiv_f86c9_6 rfl 2 rfl ?_
  refine p_lxor dJ9_floorDiv_f86c9_7 ?_
  refine p_lconst (z := 0) dJ9_floorDiv_f86c9_8 rfl ?_
  refine p_lcmp (z := (if (i64 x0 ^^^ i64 x2).toInt < 0 then (-1) else if (i64 x0 ^^^ i64 x2).toInt = 0 then 0 else 1)) dJ9_floorDiv_f86c9_9 rfl ?_
  refine p_if_ge (tgt := 27) (q := (i64 x0 ^^^ i64 x2).toInt ≥ 0) dJ9_floorDiv_f86c9_10 (by decide) (lc_ge ((i64 x0 ^^^ i64 x2).toInt) 0) (fun hc => ?_) (fun hc => ?_)
  · replace hf := Eq.mp (if_pos hc) hf
    refine p_sub (ls' := [(4, vl z2)]) [0] rfl ?_
    exact t_J9_floorDiv_f86c9_27  _ _ hf
  · replace hf := Eq.mp (if_neg hc) hf
    refine p_lload dJ9_floorDiv_f86c9_13 0 rfl ?_
    refine p_lload_n dJ9_floorDiv_f86c9_15 rfl 2 rfl ?_
    refine p_lmul dJ9_floorDiv_f86c9_16 ?_
    refine p_lload_n dJ9_floorDiv_f86c9_17 rfl 1 rfl ?_
    refine p_lcmp (z := (if w64 (z2 * x2) < x0 then (-1) else if w64 (z2 * x2) = x0 then 0 else 1)) dJ9_floorDiv_f86c9_18 rfl ?_
    refine p_if_eq (tgt := 27) (q := w64 (z2 * x2) = x0) dJ9_floorDiv_f86c9_19 (by decide) (lc_eq (w64 (z2 * x2)) x0) (fun hc => ?_) (fun hc => ?_)
    · replace hf := Eq.mp (if_pos hc) hf
      refine p_sub (ls' := [(4, vl z2)]) [0] rfl ?_
      exact t_J9_floorDiv_f86c9_27  _ _ hf
    · replace hf := Eq.mp (if_neg hc) hf
      refine p_lload dJ9_floorDiv_f86c9_22 0 rfl ?_
      refine p_lconst (z := 1) dJ9_floorDiv_f86c9_24 rfl ?_
      refine p_lsub dJ9_floorDiv_f86c9_25 ?_
      exact p_lret dJ9_floorDiv_f86c9_26 rfl (by decide) (by decide) (fun _ h => absurd h List.not_mem_nil) hf
theorem ok_J9_floorDiv_f86c9 : mOK M_J9_floorDiv_f86c9 2 := ⟨tb_432, tb_11, by decide +kernel⟩
abbrev M_X10_nearest : MD := (yX10_nearest, cX10_nearest, 4, some .long)
abbrev rm_X10_nearest : Room := { frames := 1, cells := 0, slots := 0, locals := 25 }
def w_X10_nearest (x0 x2 : Int) (h : Hh) (K : Int → Hh → Prop) : Prop := if x2 > 0 then (w_J9_floorDiv_f86c9 (w64 ((w64 (2 * x0)) + x2)) (w64 (2 * x2)) h (fun r1 h2 => K r1 h2)) else (K 0 h)
set_option maxRecDepth 100000 in
set_option maxHeartbeats 4000000 in
theorem t_X10_nearest {G : Gx} (x0 x2 : Int) (h : Hh) (K : Int → Hh → Prop) (hf : w_X10_nearest x0 x2 h K) : CT G M_X10_nearest rm_X10_nearest 0 0 [] [vl x0, vl x2] h K := by
  unfold w_X10_nearest at hf
  refine CT.of (ls0 := [(0, vl x0), (2, vl x2)]) (plainFor_of_name (by decide +kernel)) (by decide +kernel) (Nat.le_of_ble_eq_true rfl) rfl rfl ?_
  refine p_lload_n dX10_nearest_0 rfl 1 rfl ?_
  refine p_lconst (z := 0) dX10_nearest_1 rfl ?_
  refine p_lcmp (z := (if x2 < 0 then (-1) else if x2 = 0 then 0 else 1)) dX10_nearest_2 rfl ?_
  refine p_if_gt (tgt := 8) (q := x2 > 0) dX10_nearest_3 (by decide) (lc_gt x2 0) (fun hc => ?_) (fun hc => ?_)
  · replace hf := Eq.mp (if_pos hc) hf
    refine p_ldc2 (z := 2) dX10_nearest_8 tb_429 (by decide) ?_
    refine p_lload_n dX10_nearest_11 rfl 0 rfl ?_
    refine p_lmul dX10_nearest_12 ?_
    refine p_lload_n dX10_nearest_13 rfl 1 rfl ?_
    refine p_ladd dX10_nearest_14 ?_
    refine p_ldc2 (z := 2) dX10_nearest_15 tb_429 (by decide) ?_
    refine p_lload_n dX10_nearest_18 rfl 1 rfl ?_
    refine p_lmul dX10_nearest_19 ?_
    refine p_callSl dX10_nearest_20 M_J9_floorDiv_f86c9 rfl [vl (w64 ((w64 (2 * x0)) + x2)), vl (w64 (2 * x2))] (t_J9_floorDiv_f86c9 _ _ _ _ hf) ok_J9_floorDiv_f86c9 rfl tb_430 tb_431 rfl (Nat.le_of_ble_eq_true rfl) ⟨rfl, rfl⟩ ⟨by decide, by decide⟩ ⟨by decide, by decide⟩ (fun r1 h2 hf => ?_)
    exact p_lret dX10_nearest_23 rfl (by decide) (by decide) (fun _ h => absurd h List.not_mem_nil) hf
  · replace hf := Eq.mp (if_neg hc) hf
    refine p_lconst (z := 0) dX10_nearest_6 rfl ?_
    exact p_lret dX10_nearest_7 rfl (by decide) (by decide) (fun _ h => absurd h List.not_mem_nil) hf
theorem ok_X10_nearest : mOK M_X10_nearest 2 := ⟨tb_428, tb_1, by decide +kernel⟩
abbrev M_X0_meets : MD := (yX0_meets, cX0_meets, 6, some .long)
abbrev rm_X0_meets : Room := { frames := 2, cells := 0, slots := 0, locals := 48 }
def w_X0_meets (a0 x1 x2 x4 : Int) (h : Hh) (K : Int → Hh → Prop) : Prop := w_X0_midOf a0 x1 h (fun r1 h2 => w_X10_nearest (w64 ((w64 (x4 - x2)) * r1)) (h2 a0 4) h2 (fun r3 h4 => K (w64 (x2 + r3)) h4))
set_option maxRecDepth 100000 in
set_option maxHeartbeats 4000000 in
theorem t_X0_meets {G : Gx} (a0 x1 x2 x4 : Int) (h : Hh) (K : Int → Hh → Prop) (h0 : 0 ≤ a0) (hf : w_X0_meets a0 x1 x2 x4 h K) : CT G M_X0_meets rm_X0_meets 0 0 [] [vr 0 a0 0, vi x1, vl x2, vl x4] h K := by
  unfold w_X0_meets at hf
  refine CT.of (ls0 := [(0, vr 0 a0 0), (1, vi x1), (2, vl x2), (4, vl x4)]) (plainFor_of_name (by decide +kernel)) (by decide +kernel) (Nat.le_of_ble_eq_true rfl) rfl rfl ?_
  refine p_lload_n dX0_meets_0 rfl 2 rfl ?_
  refine p_lload dX0_meets_1 3 rfl ?_
  refine p_lload_n dX0_meets_3 rfl 2 rfl ?_
  refine p_lsub dX0_meets_4 ?_
  refine p_aload_n dX0_meets_5 rfl 0 rfl ?_
  refine p_iload_n dX0_meets_6 rfl 1 rfl ?_
  refine p_callVl dX0_meets_7 M_X0_midOf rfl [vi x1] (t_X0_midOf _ _ _ _ h0 hf) ok_X0_midOf rfl (c := 0) (by decide) h0 rfl tb_619 ⟨tb_621, ts_38⟩ rfl (Nat.le_of_ble_eq_true rfl) ⟨rfl, rfl⟩ ⟨by decide, by decide⟩ ⟨by decide, by decide⟩ (fun r1 h2 hf => ?_)
  refine p_lmul dX0_meets_10 ?_
  refine p_aload_n dX0_meets_11 rfl 0 rfl ?_
  refine p_get (c := 0) (vi (h2 a0 4)) dX0_meets_12 4 tb_501 (by decide) (by decide) (Or.inl rfl) h0 rfl rfl ?_
  refine p_i2l dX0_meets_15 ?_
  refine p_callSNl dX0_meets_16 M_X10_nearest rfl [vl (w64 ((w64 (x4 - x2)) * r1)), vl (h2 a0 4)] (t_X10_nearest _ _ _ _ hf) ok_X10_nearest rfl tb_623 tb_427 rfl (Nat.le_of_ble_eq_true rfl) ⟨rfl, rfl⟩ ⟨by decide, by decide⟩ ⟨by decide, by decide⟩ (fun r3 h4 hf => ?_)
  refine p_ladd dX0_meets_19 ?_
  exact p_lret dX0_meets_20 rfl (by decide) (by decide) (fun _ h => absurd h List.not_mem_nil) hf
theorem ok_X0_meets : mOK M_X0_meets 3 := ⟨tb_618, tb_12, by decide +kernel⟩
abbrev M_X0_sumAt : MD := (yX0_sumAt, cX0_sumAt, 8, some .long)
abbrev rm_X0_sumAt : Room := { frames := 2, cells := 0, slots := 0, locals := 48 }
def w_X0_sumAt (a0 x1 x2 : Int) (h : Hh) (K : Int → Hh → Prop) : Prop := w_X0_hasPage a0 x1 h (fun r1 h2 => if r1 ≠ 0 then (((0 : Int) ≤ x1 ∧ (x1 : Int) < 3) ∧ (vb (h2 (a0 + 2) x1) fun z4 => vb (h2 (a0 + 3) x1) fun z5 => w_X10_nearest (w64 (x2 * (w64 (z4 + z5)))) (w64 (z4 * z5)) h2 (fun r6 h7 => K r6 h7))) else (K 0 h2))
set_option maxRecDepth 100000 in
set_option maxHeartbeats 4000000 in
theorem t_X0_sumAt {G : Gx} (a0 x1 x2 : Int) (h : Hh) (K : Int → Hh → Prop) (h0 : 0 ≤ a0) (hf : w_X0_sumAt a0 x1 x2 h K) : CT G M_X0_sumAt rm_X0_sumAt 0 0 [] [vr 0 a0 0, vi x1, vl x2] h K := by
  unfold w_X0_sumAt at hf
  refine CT.of (ls0 := [(0, vr 0 a0 0), (1, vi x1), (2, vl x2)]) (plainFor_of_name (by decide +kernel)) (by decide +kernel) (Nat.le_of_ble_eq_true rfl) rfl rfl ?_
  refine p_aload_n dX0_sumAt_0 rfl 0 rfl ?_
  refine p_iload_n dX0_sumAt_1 rfl 1 rfl ?_
  refine p_callVi dX0_sumAt_2 M_X0_hasPage (Or.inr rfl) [vi x1] (t_X0_hasPage _ _ _ _ h0 hf) ok_X0_hasPage rfl (c := 0) (by decide) h0 rfl tb_567 ⟨tb_569, ts_28⟩ rfl (Nat.le_of_ble_eq_true rfl) ⟨rfl, rfl⟩ ⟨by decide, by decide⟩ ⟨by decide, by decide⟩ (fun r1 h2 hf => ?_)
  refine p_if_ne (tgt := 10) (q := r1 ≠ 0) dX0_sumAt_5 (by decide) Iff.rfl (fun hc => ?_) (fun hc => ?_)
  · replace hf := Eq.mp (if_pos hc) hf
    refine p_aload_n dX0_sumAt_10 rfl 0 rfl ?_
    refine p_lay (c := 0) (tq := 100) (n := 3) dX0_sumAt_11 6 2 tb_505 (by decide) (by decide) h0 (by decide) (by decide) (fun _ => rfl) (vr 100 (a0 + 2) 3) rfl ?_
    refine p_iload_n dX0_sumAt_14 rfl 1 rfl ?_
    obtain ⟨c3, hf⟩ := hf
    refine p_iald dX0_sumAt_15 (nnk h0 (by decide)) c3 ?_
    refine p_i2l dX0_sumAt_16 ?_
    refine p_lstore (ls' := [(4, vl (h2 (a0 + 2) x1)), (0, vr 0 a0 0), (1, vi x1), (2, vl x2)]) dX0_sumAt_17 (by decide) rfl ?_
    replace hf := vb_e hf
    generalize (h2 (a0 + 2) x1) = z4 at hf ⊢
    refine p_aload_n dX0_sumAt_19 rfl 1 rfl ?_
    refine p_lay (c := 0) (tq := 100) (n := 3) dX0_sumAt_20 7 3 tb_508 (by decide) (by decide) h0 (by decide) (by decide) (fun _ => rfl) (vr 100 (a0 + 3) 3) rfl ?_
    refine p_iload_n dX0_sumAt_23 rfl 2 rfl ?_
    refine p_iald dX0_sumAt_24 (nnk h0 (by decide)) c3 ?_
    refine p_i2l dX0_sumAt_25 ?_
    refine p_lstore (ls' := [(6, vl (h2 (a0 + 3) x1)), (4, vl z4), (0, vr 0 a0 0), (1, vi x1), (2, vl x2)]) dX0_sumAt_26 (by decide) rfl ?_
    replace hf := vb_e hf
    generalize (h2 (a0 + 3) x1) = z5 at hf ⊢
    refine p_lload_n dX0_sumAt_28 rfl 4 rfl ?_
    refine p_lload dX0_sumAt_29 1 rfl ?_
    refine p_lload dX0_sumAt_31 0 rfl ?_
    refine p_ladd dX0_sumAt_33 ?_
    refine p_lmul dX0_sumAt_34 ?_
    refine p_lload dX0_sumAt_35 1 rfl ?_
    refine p_lload dX0_sumAt_37 0 rfl ?_
    refine p_lmul dX0_sumAt_39 ?_
    refine p_callSNl dX0_sumAt_40 M_X10_nearest rfl [vl (w64 (x2 * (w64 (z4 + z5)))), vl (w64 (z4 * z5))] (t_X10_nearest _ _ _ _ hf) ok_X10_nearest rfl tb_623 tb_427 rfl (Nat.le_of_ble_eq_true rfl) ⟨rfl, rfl⟩ ⟨by decide, by decide⟩ ⟨by decide, by decide⟩ (fun r6 h7 hf => ?_)
    exact p_lret dX0_sumAt_43 rfl (by decide) (by decide) (fun _ h => absurd h List.not_mem_nil) hf
  · replace hf := Eq.mp (if_neg hc) hf
    refine p_lconst (z := 0) dX0_sumAt_8 rfl ?_
    exact p_lret dX0_sumAt_9 rfl (by decide) (by decide) (fun _ h => absurd h List.not_mem_nil) hf
theorem ok_X0_sumAt : mOK M_X0_sumAt 2 := ⟨tb_638, tb_12, by decide +kernel⟩
abbrev M_X0_lastSumOnFlat : MD := (yX0_lastSumOnFlat, cX0_lastSumOnFlat, 6, some .long)
abbrev rm_X0_lastSumOnFlat : Room := { frames := 3, cells := 0, slots := 0, locals := 75 }
def w_X0_lastSumOnFlat_16 (K : Int → Hh → Prop) (X81 : Int → Hh → Prop) (a0 : Int) : Nat → Int → Int → Int → Int → Int → Hh → Prop
  | 0, _, _, _, _, _, _ => False
  | n + 1, v1, v1n, v2, v3, v5, h => if v5 ≥ h a0 3 then (X81 v3 h) else (0 ≤ v1 ∧ (if w32 (v5 + 1) ≥ v1n then (X81 v3 h) else (((0 : Int) ≤ v5 ∧ (v5 : Int) < 3) ∧ (((0 : Int) ≤ w32 (v5 + 1) ∧ (w32 (v5 + 1) : Int) < v1n) ∧ (w_X0_meets a0 v5 (w64 ((h (a0 + 2) v5) * v3)) (w64 ((h (a0 + 3) v5) * (h v1 (w32 (v5 + 1))))) h (fun r5 h6 => w_X0_sumAt a0 v5 (w64 (r5 + v2)) h6 (fun r7 h8 => vb (w32 (v5 + 1)) fun z9 => w_X0_lastSumOnFlat_16 K X81 a0 n v1 v1n v2 r7 z9 h8)))))))
set_option maxRecDepth 100000 in
set_option maxHeartbeats 4000000 in
theorem t_X0_lastSumOnFlat_16 {G : Gx} {n0 : Int} {K : Int → Hh → Prop} {X81 : Int → Hh → Prop} {a0 : Int} (h0 : 0 ≤ a0) (hX81 : ∀ (v3 : Int) (h : Hh), X81 v3 h → PW G M_X0_lastSumOnFlat rm_X0_lastSumOnFlat 0 0 [] n0 K 81 [(3, vl v3)] [] [] 0 0 h) : ∀ (n : Nat) (v1 v1n v2 v3 v5 : Int) (h : Hh), w_X0_lastSumOnFlat_16 K X81 a0 n v1 v1n v2 v3 v5 h → PW G M_X0_lastSumOnFlat rm_X0_lastSumOnFlat 0 0 [] n0 K 16 [(0, vr 0 a0 0), (1, vr 101 v1 v1n), (2, vi v2), (3, vl v3), (5, vi v5)] [] [] 0 0 h := by
  intro n
  induction n with
  | zero =>
    intro v1 v1n v2 v3 v5 h hf
    rw [w_X0_lastSumOnFlat_16] at hf
    exact hf.elim
  | succ n ih =>
    intro v1 v1n v2 v3 v5 h hf
    rw [w_X0_lastSumOnFlat_16] at hf
    refine p_iload dX0_lastSumOnFlat_16 4 rfl ?_
    refine p_aload_n dX0_lastSumOnFlat_18 rfl 0 rfl ?_
    refine p_get (c := 0) (vi (h a0 3)) dX0_lastSumOnFlat_19 3 tb_498 (by decide) (by decide) (Or.inl rfl) h0 rfl rfl ?_
    refine p_icmp_ge (tgt := 81) (q := v5 ≥ h a0 3) dX0_lastSumOnFlat_22 (by decide) Iff.rfl (fun hc => ?_) (fun hc => ?_)
    · replace hf := Eq.mp (if_pos hc) hf
      refine p_sub (ls' := [(3, vl v3)]) [3] rfl ?_
      exact hX81 _ _ hf
    · replace hf := Eq.mp (if_neg hc) hf
      refine p_iload dX0_lastSumOnFlat_25 4 rfl ?_
      refine p_iconst dX0_lastSumOnFlat_27 (by decide) ?_
      refine p_iadd dX0_lastSumOnFlat_28 ?_
      refine p_aload_n dX0_lastSumOnFlat_29 rfl 1 rfl ?_
      obtain ⟨c2, hf⟩ := hf
      refine p_alen dX0_lastSumOnFlat_30 (by decide) c2 ?_
      refine p_icmp_ge (tgt := 81) (q := w32 (v5 + 1) ≥ v1n) dX0_lastSumOnFlat_31 (by decide) Iff.rfl (fun hc => ?_) (fun hc => ?_)
      · replace hf := Eq.mp (if_pos hc) hf
        refine p_sub (ls' := [(3, vl v3)]) [3] rfl ?_
        exact hX81 _ _ hf
      · replace hf := Eq.mp (if_neg hc) hf
        refine p_aload_n dX0_lastSumOnFlat_34 rfl 0 rfl ?_
        refine p_iload dX0_lastSumOnFlat_35 4 rfl ?_
        refine p_aload_n dX0_lastSumOnFlat_37 rfl 0 rfl ?_
        refine p_iload dX0_lastSumOnFlat_38 4 rfl ?_
        refine p_aload_n dX0_lastSumOnFlat_40 rfl 0 rfl ?_
        refine p_lay (c := 0) (tq := 100) (n := 3) dX0_lastSumOnFlat_41 6 2 tb_505 (by decide) (by decide) h0 (by decide) (by decide) (fun _ => rfl) (vr 100 (a0 + 2) 3) rfl ?_
        refine p_iload dX0_lastSumOnFlat_44 4 rfl ?_
        obtain ⟨c3, hf⟩ := hf
        refine p_iald dX0_lastSumOnFlat_46 (nnk h0 (by decide)) c3 ?_
        refine p_i2l dX0_lastSumOnFlat_47 ?_
        refine p_lload_n dX0_lastSumOnFlat_48 rfl 3 rfl ?_
        refine p_lmul dX0_lastSumOnFlat_49 ?_
        refine p_aload_n dX0_lastSumOnFlat_50 rfl 0 rfl ?_
        refine p_lay (c := 0) (tq := 100) (n := 3) dX0_lastSumOnFlat_51 7 3 tb_508 (by decide) (by decide) h0 (by decide) (by decide) (fun _ => rfl) (vr 100 (a0 + 3) 3) rfl ?_
        refine p_iload dX0_lastSumOnFlat_54 4 rfl ?_
        refine p_iald dX0_lastSumOnFlat_56 (nnk h0 (by decide)) c3 ?_
        refine p_i2l dX0_lastSumOnFlat_57 ?_
        refine p_aload_n dX0_lastSumOnFlat_58 rfl 1 rfl ?_
        refine p_iload dX0_lastSumOnFlat_59 4 rfl ?_
        refine p_iconst dX0_lastSumOnFlat_61 (by decide) ?_
        refine p_iadd dX0_lastSumOnFlat_62 ?_
        obtain ⟨c4, hf⟩ := hf
        refine p_lald dX0_lastSumOnFlat_63 c2 c4 ?_
        refine p_lmul dX0_lastSumOnFlat_64 ?_
        refine p_callVl dX0_lastSumOnFlat_65 M_X0_meets rfl [vi v5, vl (w64 ((h (a0 + 2) v5) * v3)), vl (w64 ((h (a0 + 3) v5) * (h v1 (w32 (v5 + 1)))))] (t_X0_meets _ _ _ _ _ _ h0 hf) ok_X0_meets rfl (c := 0) (by decide) h0 rfl tb_668 ⟨tb_617, ts_37⟩ rfl (Nat.le_of_ble_eq_true rfl) ⟨rfl, rfl⟩ ⟨by decide, by decide⟩ ⟨by decide, by decide⟩ (fun r5 h6 hf => ?_)
        refine p_iload_n dX0_lastSumOnFlat_68 rfl 2 rfl ?_
        refine p_i2l dX0_lastSumOnFlat_69 ?_
        refine p_ladd dX0_lastSumOnFlat_70 ?_
        refine p_callVl dX0_lastSumOnFlat_71 M_X0_sumAt rfl [vi v5, vl (w64 (r5 + v2))] (t_X0_sumAt _ _ _ _ _ h0 hf) ok_X0_sumAt rfl (c := 0) (by decide) h0 rfl tb_669 ⟨tb_637, ts_40⟩ rfl (Nat.le_of_ble_eq_true rfl) ⟨rfl, rfl⟩ ⟨by decide, by decide⟩ ⟨by decide, by decide⟩ (fun r7 h8 hf => ?_)
        refine p_lstore_n (ls' := [(3, vl r7), (0, vr 0 a0 0), (1, vr 101 v1 v1n), (2, vi v2), (5, vi v5)]) dX0_lastSumOnFlat_74 rfl (by decide) rfl ?_
        refine p_iinc (ls' := [(5, vi (w32 (v5 + 1))), (3, vl r7), (0, vr 0 a0 0), (1, vr 101 v1 v1n), (2, vi v2)]) dX0_lastSumOnFlat_75 4 rfl (by decide) rfl ?_
        replace hf := vb_e hf
        generalize w32 (v5 + 1) = z9 at hf ⊢
        refine p_goto (tgt := 16) dX0_lastSumOnFlat_78 (by decide) ?_
        refine p_sub (ls' := [(0, vr 0 a0 0), (1, vr 101 v1 v1n), (2, vi v2), (3, vl r7), (5, vi z9)]) [2, 3, 4, 1, 0] rfl ?_
        exact ih _ _ _ _ _ _ hf
def w_X0_lastSumOnFlat_81 (K : Int → Hh → Prop) (a0 : Int) (v3 : Int) (h : Hh) : Prop := K v3 h
set_option maxRecDepth 100000 in
set_option maxHeartbeats 4000000 in
theorem t_X0_lastSumOnFlat_81 {G : Gx} {n0 : Int} {K : Int → Hh → Prop} {a0 : Int} (h0 : 0 ≤ a0)  (v3 : Int) (h : Hh) (hf : w_X0_lastSumOnFlat_81 K  a0 v3 h) : PW G M_X0_lastSumOnFlat rm_X0_lastSumOnFlat 0 0 [] n0 K 81 [(3, vl v3)] [] [] 0 0 h := by
  unfold w_X0_lastSumOnFlat_81 at hf
  refine p_lload_n dX0_lastSumOnFlat_81 rfl 0 rfl ?_
  exact p_lret dX0_lastSumOnFlat_82 rfl (by decide) (by decide) (fun _ h => absurd h List.not_mem_nil) hf
def w_X0_lastSumOnFlat_12 (K : Int → Hh → Prop) (a0 : Int) (v1 v1n v2 s0 : Int) (h : Hh) : Prop := w_X0_lastSumOnFlat_16 K (fun u11 h10 => w_X0_lastSumOnFlat_81 K  a0 u11 h10) a0 NF v1 v1n v2 s0 0 h
set_option maxRecDepth 100000 in
set_option maxHeartbeats 4000000 in
theorem t_X0_lastSumOnFlat_12 {G : Gx} {n0 : Int} {K : Int → Hh → Prop} {a0 : Int} (h0 : 0 ≤ a0)  (v1 v1n v2 s0 : Int) (h : Hh) (hf : w_X0_lastSumOnFlat_12 K  a0 v1 v1n v2 s0 h) : PW G M_X0_lastSumOnFlat rm_X0_lastSumOnFlat 0 0 [] n0 K 12 [(0, vr 0 a0 0), (1, vr 101 v1 v1n), (2, vi v2)] [vl s0] [] 0 0 h := by
  unfold w_X0_lastSumOnFlat_12 at hf
  refine p_lstore_n (ls' := [(3, vl s0), (0, vr 0 a0 0), (1, vr 101 v1 v1n), (2, vi v2)]) dX0_lastSumOnFlat_12 rfl (by decide) rfl ?_
  refine p_iconst dX0_lastSumOnFlat_13 (by decide) ?_
  refine p_istore (ls' := [(5, vi 0), (3, vl s0), (0, vr 0 a0 0), (1, vr 101 v1 v1n), (2, vi v2)]) dX0_lastSumOnFlat_14 (by decide) rfl ?_
  refine p_sub (ls' := [(0, vr 0 a0 0), (1, vr 101 v1 v1n), (2, vi v2), (3, vl s0), (5, vi 0)]) [2, 3, 4, 1, 0] rfl ?_
  refine t_X0_lastSumOnFlat_16 h0 ?_ NF _ _ _ _ _ _ hf
  · intro u11 h10 hf
    exact t_X0_lastSumOnFlat_81 h0  _ _ hf
def w_X0_lastSumOnFlat (a0 x1 n1 x2 : Int) (h : Hh) (K : Int → Hh → Prop) : Prop := 0 ≤ x1 ∧ (if n1 ≤ 0 then (w_X0_lastSumOnFlat_12 K  a0 x1 n1 x2 0 h) else (((0 : Int) ≤ 0 ∧ (0 : Int) < n1) ∧ (w_X0_lastSumOnFlat_12 K  a0 x1 n1 x2 (h x1 0) h)))
set_option maxRecDepth 100000 in
set_option maxHeartbeats 4000000 in
theorem t_X0_lastSumOnFlat {G : Gx} (a0 x1 n1 x2 : Int) (h : Hh) (K : Int → Hh → Prop) (h0 : 0 ≤ a0) (hf : w_X0_lastSumOnFlat a0 x1 n1 x2 h K) : CT G M_X0_lastSumOnFlat rm_X0_lastSumOnFlat 0 0 [] [vr 0 a0 0, vr 101 x1 n1, vi x2] h K := by
  unfold w_X0_lastSumOnFlat at hf
  refine CT.of (ls0 := [(0, vr 0 a0 0), (1, vr 101 x1 n1), (2, vi x2)]) (plainFor_of_name (by decide +kernel)) (by decide +kernel) (Nat.le_of_ble_eq_true rfl) rfl rfl ?_
  refine p_aload_n dX0_lastSumOnFlat_0 rfl 1 rfl ?_
  obtain ⟨c1, hf⟩ := hf
  refine p_alen dX0_lastSumOnFlat_1 (by decide) c1 ?_
  refine p_if_le (tgt := 11) (q := n1 ≤ 0) dX0_lastSumOnFlat_2 (by decide) Iff.rfl (fun hc => ?_) (fun hc => ?_)
  · replace hf := Eq.mp (if_pos hc) hf
    refine p_lconst (z := 0) dX0_lastSumOnFlat_11 rfl ?_
    exact t_X0_lastSumOnFlat_12 h0  _ _ _ _ _ hf
  · replace hf := Eq.mp (if_neg hc) hf
    refine p_aload_n dX0_lastSumOnFlat_5 rfl 1 rfl ?_
    refine p_iconst dX0_lastSumOnFlat_6 (by decide) ?_
    obtain ⟨c12, hf⟩ := hf
    refine p_lald dX0_lastSumOnFlat_7 c1 c12 ?_
    refine p_goto (tgt := 12) dX0_lastSumOnFlat_8 (by decide) ?_
    exact t_X0_lastSumOnFlat_12 h0  _ _ _ _ _ hf
theorem ok_X0_lastSumOnFlat : mOK M_X0_lastSumOnFlat 2 := ⟨tb_667, tb_12, by decide +kernel⟩
abbrev M_J9_min_f86c9 : MD := (yJ9_min_f86c9, cJ9_min_f86c9, 4, some .long)
abbrev rm_J9_min_f86c9 : Room := { frames := 0, cells := 0, slots := 0, locals := 0 }
def w_J9_min_f86c9_11 (K : Int → Hh → Prop) (s0 : Int) (h : Hh) : Prop := K s0 h
set_option maxRecDepth 100000 in
set_option maxHeartbeats 4000000 in
theorem t_J9_min_f86c9_11 {G : Gx} {n0 : Int} {K : Int → Hh → Prop}  (s0 : Int) (h : Hh) (hf : w_J9_min_f86c9_11 K   s0 h) : PW G M_J9_min_f86c9 rm_J9_min_f86c9 0 0 [] n0 K 11 [] [vl s0] [] 0 0 h := by
  unfold w_J9_min_f86c9_11 at hf
  exact p_lret dJ9_min_f86c9_11 rfl (by decide) (by decide) (fun _ h => absurd h List.not_mem_nil) hf
def w_J9_min_f86c9 (x0 x2 : Int) (h : Hh) (K : Int → Hh → Prop) : Prop := if x0 > x2 then (w_J9_min_f86c9_11 K   x2 h) else (w_J9_min_f86c9_11 K   x0 h)
set_option maxRecDepth 100000 in
set_option maxHeartbeats 4000000 in
theorem t_J9_min_f86c9 {G : Gx} (x0 x2 : Int) (h : Hh) (K : Int → Hh → Prop) (hf : w_J9_min_f86c9 x0 x2 h K) : CT G M_J9_min_f86c9 rm_J9_min_f86c9 0 0 [] [vl x0, vl x2] h K := by
  unfold w_J9_min_f86c9 at hf
  refine CT.of (ls0 := [(0, vl x0), (2, vl x2)]) (by decide +kernel) (by decide +kernel) (Nat.le_of_ble_eq_true rfl) rfl rfl ?_
  refine p_lload_n dJ9_min_f86c9_0 rfl 0 rfl ?_
  refine p_lload_n dJ9_min_f86c9_1 rfl 1 rfl ?_
  refine p_lcmp (z := (if x0 < x2 then (-1) else if x0 = x2 then 0 else 1)) dJ9_min_f86c9_2 rfl ?_
  refine p_if_gt (tgt := 10) (q := x0 > x2) dJ9_min_f86c9_3 (by decide) (lc_gt x0 x2) (fun hc => ?_) (fun hc => ?_)
  · replace hf := Eq.mp (if_pos hc) hf
    refine p_lload_n dJ9_min_f86c9_10 rfl 1 rfl ?_
    refine p_sub (ls' := []) [] rfl ?_
    exact t_J9_min_f86c9_11  _ _ hf
  · replace hf := Eq.mp (if_neg hc) hf
    refine p_lload_n dJ9_min_f86c9_6 rfl 0 rfl ?_
    refine p_goto (tgt := 11) dJ9_min_f86c9_7 (by decide) ?_
    refine p_sub (ls' := []) [] rfl ?_
    exact t_J9_min_f86c9_11  _ _ hf
theorem ok_J9_min_f86c9 : mOK M_J9_min_f86c9 2 := ⟨tb_681, tb_11, by decide +kernel⟩
