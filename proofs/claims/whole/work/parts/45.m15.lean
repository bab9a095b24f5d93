abbrev M_X11_count : MD := (yX11_count, cX11_count, 2, some .int)
abbrev rm_X11_count : Room := { frames := 0, cells := 0, slots := 0, locals := 0 }
def w_X11_count (a0 x1 : Int) (h : Hh) (K : Int → Hh → Prop) : Prop := if x1 = 0 then (K (h a0 29) h) else (if x1 = 1 then (K (h a0 11) h) else (if x1 = 2 then (K (h a0 18) h) else (if x1 = 3 then (K (h a0 30) h) else (if x1 = 4 then (K (h a0 36) h) else (if x1 = 5 then (K (h a0 42) h) else (if x1 = 6 then (K (h a0 1) h) else (if x1 = 7 then (K (h a0 27) h) else (K (-1) h))))))))
set_option maxRecDepth 100000 in
set_option maxHeartbeats 4000000 in
theorem t_X11_count {G : Gx} (a0 x1 : Int) (h : Hh) (K : Int → Hh → Prop) (h0 : 0 ≤ a0) (hf : w_X11_count a0 x1 h K) : CT G M_X11_count rm_X11_count 0 0 [] [vr 11 a0 0, vi x1] h K := by
  unfold w_X11_count at hf
  refine CT.of (ls0 := [(0, vr 11 a0 0), (1, vi x1)]) (plainFor_of_name (by decide +kernel)) (by decide +kernel) (Nat.le_of_ble_eq_true rfl) rfl rfl ?_
  refine p_iload_n dX11_count_0 rfl 1 rfl ?_
  by_cases hc : x1 = 0
  · replace hf := Eq.mp (if_pos hc) hf
    refine p_tsIn (tgt := 48) (off := 47) dX11_count_1 (by omega) (by omega) (by rw [hc]; rfl) (by decide) ?_
    refine p_aload_n dX11_count_48 rfl 0 rfl ?_
    refine p_get (c := 11) (vi (h a0 29)) dX11_count_49 29 tb_922 (by decide) (by decide) (Or.inl rfl) h0 rfl rfl ?_
    exact p_iret dX11_count_52 rfl (by decide) (by decide) (fun _ h => absurd h List.not_mem_nil) hf
  replace hf := Eq.mp (if_neg hc) hf
  have hc1_0 := hc
  clear hc
  by_cases hc : x1 = 1
  · replace hf := Eq.mp (if_pos hc) hf
    refine p_tsIn (tgt := 53) (off := 52) dX11_count_1 (by omega) (by omega) (by rw [hc]; rfl) (by decide) ?_
    refine p_aload_n dX11_count_53 rfl 0 rfl ?_
    refine p_get (c := 11) (vi (h a0 11)) dX11_count_54 11 tb_904 (by decide) (by decide) (Or.inl rfl) h0 rfl rfl ?_
    exact p_iret dX11_count_57 rfl (by decide) (by decide) (fun _ h => absurd h List.not_mem_nil) hf
  replace hf := Eq.mp (if_neg hc) hf
  have hc1_1 := hc
  clear hc
  by_cases hc : x1 = 2
  · replace hf := Eq.mp (if_pos hc) hf
    refine p_tsIn (tgt := 58) (off := 57) dX11_count_1 (by omega) (by omega) (by rw [hc]; rfl) (by decide) ?_
    refine p_aload_n dX11_count_58 rfl 0 rfl ?_
    refine p_get (c := 11) (vi (h a0 18)) dX11_count_59 18 tb_911 (by decide) (by decide) (Or.inl rfl) h0 rfl rfl ?_
    exact p_iret dX11_count_62 rfl (by decide) (by decide) (fun _ h => absurd h List.not_mem_nil) hf
  replace hf := Eq.mp (if_neg hc) hf
  have hc1_2 := hc
  clear hc
  by_cases hc : x1 = 3
  · replace hf := Eq.mp (if_pos hc) hf
    refine p_tsIn (tgt := 63) (off := 62) dX11_count_1 (by omega) (by omega) (by rw [hc]; rfl) (by decide) ?_
    refine p_aload_n dX11_count_63 rfl 0 rfl ?_
    refine p_get (c := 11) (vi (h a0 30)) dX11_count_64 30 tb_923 (by decide) (by decide) (Or.inl rfl) h0 rfl rfl ?_
    exact p_iret dX11_count_67 rfl (by decide) (by decide) (fun _ h => absurd h List.not_mem_nil) hf
  replace hf := Eq.mp (if_neg hc) hf
  have hc1_3 := hc
  clear hc
  by_cases hc : x1 = 4
  · replace hf := Eq.mp (if_pos hc) hf
    refine p_tsIn (tgt := 68) (off := 67) dX11_count_1 (by omega) (by omega) (by rw [hc]; rfl) (by decide) ?_
    refine p_aload_n dX11_count_68 rfl 0 rfl ?_
    refine p_get (c := 11) (vi (h a0 36)) dX11_count_69 36 tb_929 (by decide) (by decide) (Or.inl rfl) h0 rfl rfl ?_
    exact p_iret dX11_count_72 rfl (by decide) (by decide) (fun _ h => absurd h List.not_mem_nil) hf
  replace hf := Eq.mp (if_neg hc) hf
  have hc1_4 := hc
  clear hc
  by_cases hc : x1 = 5
  · replace hf := Eq.mp (if_pos hc) hf
    refine p_tsIn (tgt := 73) (off := 72) dX11_count_1 (by omega) (by omega) (by rw [hc]; rfl) (by decide) ?_
    refine p_aload_n dX11_count_73 rfl 0 rfl ?_
    refine p_get (c := 11) (vi (h a0 42)) dX11_count_74 42 tb_935 (by decide) (by decide) (Or.inl rfl) h0 rfl rfl ?_
    exact p_iret dX11_count_77 rfl (by decide) (by decide) (fun _ h => absurd h List.not_mem_nil) hf
  replace hf := Eq.mp (if_neg hc) hf
  have hc1_5 := hc
  clear hc
  by_cases hc : x1 = 6
  · replace hf := Eq.mp (if_pos hc) hf
    refine p_tsIn (tgt := 78) (off := 77) dX11_count_1 (by omega) (by omega) (by rw [hc]; rfl) (by decide) ?_
    refine p_aload_n dX11_count_78 rfl 0 rfl ?_
    refine p_get (c := 11) (vi (h a0 1)) dX11_count_79 1 tb_894 (by decide) (by decide) (Or.inl rfl) h0 rfl rfl ?_
    exact p_iret dX11_count_82 rfl (by decide) (by decide) (fun _ h => absurd h List.not_mem_nil) hf
  replace hf := Eq.mp (if_neg hc) hf
  have hc1_6 := hc
  clear hc
  by_cases hc : x1 = 7
  · replace hf := Eq.mp (if_pos hc) hf
    refine p_tsIn (tgt := 83) (off := 82) dX11_count_1 (by omega) (by omega) (by rw [hc]; rfl) (by decide) ?_
    refine p_aload_n dX11_count_83 rfl 0 rfl ?_
    refine p_get (c := 11) (vi (h a0 27)) dX11_count_84 27 tb_920 (by decide) (by decide) (Or.inl rfl) h0 rfl rfl ?_
    exact p_iret dX11_count_87 rfl (by decide) (by decide) (fun _ h => absurd h List.not_mem_nil) hf
  replace hf := Eq.mp (if_neg hc) hf
  have hc1_7 := hc
  clear hc
  refine p_tsOut (tgt := 88) dX11_count_1 (by omega) (by decide) ?_
  refine p_iconst dX11_count_88 (by decide) ?_
  exact p_iret dX11_count_89 rfl (by decide) (by decide) (fun _ h => absurd h List.not_mem_nil) hf
theorem ok_X11_count : mOK M_X11_count 1 := ⟨tb_1338, tb_9, by decide +kernel⟩
