abbrev M_X7_hasTerm : MD := (yX7_hasTerm, cX7_hasTerm, 2, some .boolean)
abbrev rm_X7_hasTerm : Room := { frames := 0, cells := 0, slots := 0, locals := 0 }
def w_X7_hasTerm_22 (K : Int → Hh → Prop) (a0 : Int) (s0 : Int) (h : Hh) : Prop := (s0 = 0 ∨ s0 = 1) ∧ (K s0 h)
set_option maxRecDepth 100000 in
set_option maxHeartbeats 4000000 in
theorem t_X7_hasTerm_22 {G : Gx} {n0 : Int} {K : Int → Hh → Prop} {a0 : Int} (h0 : 0 ≤ a0)  (s0 : Int) (h : Hh) (hf : w_X7_hasTerm_22 K  a0 s0 h) : PW G M_X7_hasTerm rm_X7_hasTerm 0 0 [] n0 K 22 [] [vi s0] [] 0 0 h := by
  unfold w_X7_hasTerm_22 at hf
  obtain ⟨c1, hf⟩ := hf
  exact p_zret dX7_hasTerm_22 rfl (by decide) (by decide) (fun _ q => absurd q List.not_mem_nil) c1 hf
def w_X7_hasTerm_21 (K : Int → Hh → Prop) (a0 : Int) (h : Hh) : Prop := w_X7_hasTerm_22 K  a0 0 h
set_option maxRecDepth 100000 in
set_option maxHeartbeats 4000000 in
theorem t_X7_hasTerm_21 {G : Gx} {n0 : Int} {K : Int → Hh → Prop} {a0 : Int} (h0 : 0 ≤ a0)  (h : Hh) (hf : w_X7_hasTerm_21 K  a0  h) : PW G M_X7_hasTerm rm_X7_hasTerm 0 0 [] n0 K 21 [] [] [] 0 0 h := by
  unfold w_X7_hasTerm_21 at hf
  refine p_iconst dX7_hasTerm_21 (by decide) ?_
  exact t_X7_hasTerm_22 h0  _ _ hf
def w_X7_hasTerm (a0 x1 : Int) (h : Hh) (K : Int → Hh → Prop) : Prop := if x1 < 0 then (w_X7_hasTerm_21 K  a0  h) else (if x1 ≥ h a0 0 then (w_X7_hasTerm_21 K  a0  h) else (if x1 ≥ 5 then (w_X7_hasTerm_21 K  a0  h) else (w_X7_hasTerm_22 K  a0 1 h)))
set_option maxRecDepth 100000 in
set_option maxHeartbeats 4000000 in
theorem t_X7_hasTerm {G : Gx} (a0 x1 : Int) (h : Hh) (K : Int → Hh → Prop) (h0 : 0 ≤ a0) (hf : w_X7_hasTerm a0 x1 h K) : CT G M_X7_hasTerm rm_X7_hasTerm 0 0 [] [vr 7 a0 0, vi x1] h K := by
  unfold w_X7_hasTerm at hf
  refine CT.of (ls0 := [(0, vr 7 a0 0), (1, vi x1)]) (by decide +kernel) (by decide +kernel) (Nat.le_of_ble_eq_true rfl) rfl rfl ?_
  refine p_iload_n dX7_hasTerm_0 rfl 1 rfl ?_
  refine p_if_lt (tgt := 21) (q := x1 < 0) dX7_hasTerm_1 (by decide) Iff.rfl (fun hc => ?_) (fun hc => ?_)
  · replace hf := Eq.mp (if_pos hc) hf
    refine p_sub (ls' := []) [] rfl ?_
    exact t_X7_hasTerm_21 h0   _ hf
  · replace hf := Eq.mp (if_neg hc) hf
    refine p_iload_n dX7_hasTerm_4 rfl 1 rfl ?_
    refine p_aload_n dX7_hasTerm_5 rfl 0 rfl ?_
    refine p_get (c := 7) (vi (h a0 0)) dX7_hasTerm_6 0 tb_353 (by decide) (by decide) (Or.inl rfl) h0 rfl rfl ?_
    refine p_icmp_ge (tgt := 21) (q := x1 ≥ h a0 0) dX7_hasTerm_9 (by decide) Iff.rfl (fun hc => ?_) (fun hc => ?_)
    · replace hf := Eq.mp (if_pos hc) hf
      refine p_sub (ls' := []) [] rfl ?_
      exact t_X7_hasTerm_21 h0   _ hf
    · replace hf := Eq.mp (if_neg hc) hf
      refine p_iload_n dX7_hasTerm_12 rfl 1 rfl ?_
      refine p_iconst dX7_hasTerm_13 (by decide) ?_
      refine p_icmp_ge (tgt := 21) (q := x1 ≥ 5) dX7_hasTerm_14 (by decide) Iff.rfl (fun hc => ?_) (fun hc => ?_)
      · replace hf := Eq.mp (if_pos hc) hf
        refine p_sub (ls' := []) [] rfl ?_
        exact t_X7_hasTerm_21 h0   _ hf
      · replace hf := Eq.mp (if_neg hc) hf
        refine p_iconst dX7_hasTerm_17 (by decide) ?_
        refine p_goto (tgt := 22) dX7_hasTerm_18 (by decide) ?_
        refine p_sub (ls' := []) [] rfl ?_
        exact t_X7_hasTerm_22 h0  _ _ hf
theorem ok_X7_hasTerm : mOK M_X7_hasTerm 1 := ⟨tb_397, tb_10, by decide +kernel⟩
abbrev M_X7_hasMark : MD := (yX7_hasMark, cX7_hasMark, 3, some .boolean)
abbrev rm_X7_hasMark : Room := { frames := 1, cells := 0, slots := 0, locals := 21 }
def w_X7_hasMark_27 (K : Int → Hh → Prop) (a0 : Int) (s0 : Int) (h : Hh) : Prop := (s0 = 0 ∨ s0 = 1) ∧ (K s0 h)
set_option maxRecDepth 100000 in
set_option maxHeartbeats 4000000 in
theorem t_X7_hasMark_27 {G : Gx} {n0 : Int} {K : Int → Hh → Prop} {a0 : Int} (h0 : 0 ≤ a0)  (s0 : Int) (h : Hh) (hf : w_X7_hasMark_27 K  a0 s0 h) : PW G M_X7_hasMark rm_X7_hasMark 0 0 [] n0 K 27 [] [vi s0] [] 0 0 h := by
  unfold w_X7_hasMark_27 at hf
  obtain ⟨c3, hf⟩ := hf
  exact p_zret dX7_hasMark_27 rfl (by decide) (by decide) (fun _ q => absurd q List.not_mem_nil) c3 hf
def w_X7_hasMark_26 (K : Int → Hh → Prop) (a0 : Int) (h : Hh) : Prop := w_X7_hasMark_27 K  a0 0 h
set_option maxRecDepth 100000 in
set_option maxHeartbeats 4000000 in
theorem t_X7_hasMark_26 {G : Gx} {n0 : Int} {K : Int → Hh → Prop} {a0 : Int} (h0 : 0 ≤ a0)  (h : Hh) (hf : w_X7_hasMark_26 K  a0  h) : PW G M_X7_hasMark rm_X7_hasMark 0 0 [] n0 K 26 [] [] [] 0 0 h := by
  unfold w_X7_hasMark_26 at hf
  refine p_iconst dX7_hasMark_26 (by decide) ?_
  exact t_X7_hasMark_27 h0  _ _ hf
def w_X7_hasMark (a0 x1 x2 : Int) (h : Hh) (K : Int → Hh → Prop) : Prop := w_X7_hasTerm a0 x1 h (fun r1 h2 => if r1 = 0 then (w_X7_hasMark_26 K  a0  h2) else (if x2 < 0 then (w_X7_hasMark_26 K  a0  h2) else ((0 ≤ x1 ∧ x1 < 5) ∧ (if x2 ≥ h2 (a0 + 3) x1 then (w_X7_hasMark_26 K  a0  h2) else (w_X7_hasMark_27 K  a0 1 h2)))))
set_option maxRecDepth 100000 in
set_option maxHeartbeats 4000000 in
theorem t_X7_hasMark {G : Gx} (a0 x1 x2 : Int) (h : Hh) (K : Int → Hh → Prop) (h0 : 0 ≤ a0) (hf : w_X7_hasMark a0 x1 x2 h K) : CT G M_X7_hasMark rm_X7_hasMark 0 0 [] [vr 7 a0 0, vi x1, vi x2] h K := by
  unfold w_X7_hasMark at hf
  refine CT.of (ls0 := [(0, vr 7 a0 0), (1, vi x1), (2, vi x2)]) (by decide +kernel) (by decide +kernel) (Nat.le_of_ble_eq_true rfl) rfl rfl ?_
  refine p_aload_n dX7_hasMark_0 rfl 0 rfl ?_
  refine p_iload_n dX7_hasMark_1 rfl 1 rfl ?_
  refine p_callVi dX7_hasMark_2 M_X7_hasTerm (Or.inr rfl) [vi x1] (t_X7_hasTerm _ _ _ _ h0 hf) ok_X7_hasTerm rfl (c := 7) (by decide) h0 rfl tb_394 ⟨tb_396, ts_13⟩ rfl (Nat.le_of_ble_eq_true rfl) ⟨rfl, rfl⟩ ⟨by decide, by decide⟩ ⟨by decide, by decide⟩ (fun r1 h2 hf => ?_)
  refine p_if_eq (tgt := 26) (q := r1 = 0) dX7_hasMark_5 (by decide) Iff.rfl (fun hc => ?_) (fun hc => ?_)
  · replace hf := Eq.mp (if_pos hc) hf
    refine p_sub (ls' := []) [] rfl ?_
    exact t_X7_hasMark_26 h0   _ hf
  · replace hf := Eq.mp (if_neg hc) hf
    refine p_iload_n dX7_hasMark_8 rfl 2 rfl ?_
    refine p_if_lt (tgt := 26) (q := x2 < 0) dX7_hasMark_9 (by decide) Iff.rfl (fun hc => ?_) (fun hc => ?_)
    · replace hf := Eq.mp (if_pos hc) hf
      refine p_sub (ls' := []) [] rfl ?_
      exact t_X7_hasMark_26 h0   _ hf
    · replace hf := Eq.mp (if_neg hc) hf
      refine p_iload_n dX7_hasMark_12 rfl 2 rfl ?_
      refine p_aload_n dX7_hasMark_13 rfl 0 rfl ?_
      refine p_lay (c := 7) (tq := 100) (n := 5) dX7_hasMark_14 4 3 tb_360 (by decide) (by decide) h0 (by decide) (by decide) (fun _ => rfl) (vr 100 (a0 + 3) 5) rfl ?_
      refine p_iload_n dX7_hasMark_17 rfl 1 rfl ?_
      obtain ⟨c4, hf⟩ := hf
      refine p_iald dX7_hasMark_18 (by omega) c4 ?_
      refine p_icmp_ge (tgt := 26) (q := x2 ≥ h2 (a0 + 3) x1) dX7_hasMark_19 (by decide) Iff.rfl (fun hc => ?_) (fun hc => ?_)
      · replace hf := Eq.mp (if_pos hc) hf
        refine p_sub (ls' := []) [] rfl ?_
        exact t_X7_hasMark_26 h0   _ hf
      · replace hf := Eq.mp (if_neg hc) hf
        refine p_iconst dX7_hasMark_22 (by decide) ?_
        refine p_goto (tgt := 27) dX7_hasMark_23 (by decide) ?_
        refine p_sub (ls' := []) [] rfl ?_
        exact t_X7_hasMark_27 h0  _ _ hf
theorem ok_X7_hasMark : mOK M_X7_hasMark 2 := ⟨tb_444, tb_10, by decide +kernel⟩
abbrev M_X0_hasPage : MD := (yX0_hasPage, cX0_hasPage, 2, some .boolean)
abbrev rm_X0_hasPage : Room := { frames := 0, cells := 0, slots := 0, locals := 0 }
def w_X0_hasPage_17 (K : Int → Hh → Prop) (a0 : Int) (s0 : Int) (h : Hh) : Prop := (s0 = 0 ∨ s0 = 1) ∧ (K s0 h)
set_option maxRecDepth 100000 in
set_option maxHeartbeats 4000000 in
theorem t_X0_hasPage_17 {G : Gx} {n0 : Int} {K : Int → Hh → Prop} {a0 : Int} (h0 : 0 ≤ a0)  (s0 : Int) (h : Hh) (hf : w_X0_hasPage_17 K  a0 s0 h) : PW G M_X0_hasPage rm_X0_hasPage 0 0 [] n0 K 17 [] [vi s0] [] 0 0 h := by
  unfold w_X0_hasPage_17 at hf
  obtain ⟨c1, hf⟩ := hf
  exact p_zret dX0_hasPage_17 rfl (by decide) (by decide) (fun _ q => absurd q List.not_mem_nil) c1 hf
def w_X0_hasPage_16 (K : Int → Hh → Prop) (a0 : Int) (h : Hh) : Prop := w_X0_hasPage_17 K  a0 0 h
set_option maxRecDepth 100000 in
set_option maxHeartbeats 4000000 in
theorem t_X0_hasPage_16 {G : Gx} {n0 : Int} {K : Int → Hh → Prop} {a0 : Int} (h0 : 0 ≤ a0)  (h : Hh) (hf : w_X0_hasPage_16 K  a0  h) : PW G M_X0_hasPage rm_X0_hasPage 0 0 [] n0 K 16 [] [] [] 0 0 h := by
  unfold w_X0_hasPage_16 at hf
  refine p_iconst dX0_hasPage_16 (by decide) ?_
  exact t_X0_hasPage_17 h0  _ _ hf
def w_X0_hasPage (a0 x1 : Int) (h : Hh) (K : Int → Hh → Prop) : Prop := if x1 < 0 then (w_X0_hasPage_16 K  a0  h) else (if x1 ≥ h a0 3 then (w_X0_hasPage_16 K  a0  h) else (w_X0_hasPage_17 K  a0 1 h))
set_option maxRecDepth 100000 in
set_option maxHeartbeats 4000000 in
theorem t_X0_hasPage {G : Gx} (a0 x1 : Int) (h : Hh) (K : Int → Hh → Prop) (h0 : 0 ≤ a0) (hf : w_X0_hasPage a0 x1 h K) : CT G M_X0_hasPage rm_X0_hasPage 0 0 [] [vr 0 a0 0, vi x1] h K := by
  unfold w_X0_hasPage at hf
  refine CT.of (ls0 := [(0, vr 0 a0 0), (1, vi x1)]) (by decide +kernel) (by decide +kernel) (Nat.le_of_ble_eq_true rfl) rfl rfl ?_
  refine p_iload_n dX0_hasPage_0 rfl 1 rfl ?_
  refine p_if_lt (tgt := 16) (q := x1 < 0) dX0_hasPage_1 (by decide) Iff.rfl (fun hc => ?_) (fun hc => ?_)
  · replace hf := Eq.mp (if_pos hc) hf
    refine p_sub (ls' := []) [] rfl ?_
    exact t_X0_hasPage_16 h0   _ hf
  · replace hf := Eq.mp (if_neg hc) hf
    refine p_iload_n dX0_hasPage_4 rfl 1 rfl ?_
    refine p_aload_n dX0_hasPage_5 rfl 0 rfl ?_
    refine p_get (c := 0) (vi (h a0 3)) dX0_hasPage_6 3 tb_498 (by decide) (by decide) (Or.inl rfl) h0 rfl rfl ?_
    refine p_icmp_ge (tgt := 16) (q := x1 ≥ h a0 3) dX0_hasPage_9 (by decide) Iff.rfl (fun hc => ?_) (fun hc => ?_)
    · replace hf := Eq.mp (if_pos hc) hf
      refine p_sub (ls' := []) [] rfl ?_
      exact t_X0_hasPage_16 h0   _ hf
    · replace hf := Eq.mp (if_neg hc) hf
      refine p_iconst dX0_hasPage_12 (by decide) ?_
      refine p_goto (tgt := 17) dX0_hasPage_13 (by decide) ?_
      refine p_sub (ls' := []) [] rfl ?_
      exact t_X0_hasPage_17 h0  _ _ hf
theorem ok_X0_hasPage : mOK M_X0_hasPage 1 := ⟨tb_570, tb_12, by decide +kernel⟩
