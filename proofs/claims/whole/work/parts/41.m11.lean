abbrev M_X11_holds : MD := (yX11_holds, cX11_holds, 3, none)
abbrev rm_X11_holds : Room := { frames := 0, cells := 0, slots := 0, locals := 0 }
def w_X11_holds_28 (K : Int → Hh → Prop) (a0 : Int) (h : Hh) : Prop := K 0 h
set_option maxRecDepth 100000 in
set_option maxHeartbeats 4000000 in
theorem t_X11_holds_28 {G : Gx} {n0 : Int} {K : Int → Hh → Prop} {a0 : Int} (h0 : 0 ≤ a0)  (h : Hh) (hf : w_X11_holds_28 K  a0  h) : PW G M_X11_holds rm_X11_holds 0 0 [] n0 K 28 [] [] [] 0 0 h := by
  unfold w_X11_holds_28 at hf
  exact p_vret dX11_holds_28 rfl (by decide) (by decide) (fun _ q => absurd q List.not_mem_nil) hf
def w_X11_holds_14 (K : Int → Hh → Prop) (a0 : Int) (v1 : Int) (h : Hh) : Prop := if v1 ≤ h a0 53 then (w_X11_holds_28 K  a0  h) else (hb (up h a0 53 v1) fun h1 => w_X11_holds_28 K  a0  h1)
set_option maxRecDepth 100000 in
set_option maxHeartbeats 4000000 in
theorem t_X11_holds_14 {G : Gx} {n0 : Int} {K : Int → Hh → Prop} {a0 : Int} (h0 : 0 ≤ a0)  (v1 : Int) (h : Hh) (hf : w_X11_holds_14 K  a0 v1 h) : PW G M_X11_holds rm_X11_holds 0 0 [] n0 K 14 [(0, vr 11 a0 0), (1, vl v1)] [] [] 0 0 h := by
  unfold w_X11_holds_14 at hf
  refine p_lload_n dX11_holds_14 rfl 1 rfl ?_
  refine p_aload_n dX11_holds_15 rfl 0 rfl ?_
  refine p_get (c := 11) (vl (h a0 53)) dX11_holds_16 53 tb_946 (by decide) (by decide) (Or.inl rfl) h0 rfl rfl ?_
  refine p_lcmp (z := (if v1 < h a0 53 then (-1) else if v1 = h a0 53 then 0 else 1)) dX11_holds_19 rfl ?_
  refine p_if_le (tgt := 28) (q := v1 ≤ h a0 53) dX11_holds_20 (by decide) (lc_le v1 (h a0 53)) (fun hc => ?_) (fun hc => ?_)
  · replace hf := Eq.mp (if_pos hc) hf
    refine p_sub (ls' := []) [] rfl ?_
    exact t_X11_holds_28 h0   _ hf
  · replace hf := Eq.mp (if_neg hc) hf
    refine p_aload_n dX11_holds_23 rfl 0 rfl ?_
    refine p_lload_n dX11_holds_24 rfl 1 rfl ?_
    refine p_putl (c := 11) dX11_holds_25 53 tb_946 (by decide) (by decide) (Or.inl rfl) h0 rfl rfl (fun _ => by decide) (up h a0 53 v1) rfl ?_
    replace hf := hb_e hf
    generalize up h a0 53 v1 = h1 at hf ⊢
    refine p_sub (ls' := []) [] rfl ?_
    exact t_X11_holds_28 h0   _ hf
def w_X11_holds (a0 x1 : Int) (h : Hh) (K : Int → Hh → Prop) : Prop := if x1 ≥ h a0 52 then (w_X11_holds_14 K  a0 x1 h) else (hb (up h a0 52 x1) fun h2 => w_X11_holds_14 K  a0 x1 h2)
set_option maxRecDepth 100000 in
set_option maxHeartbeats 4000000 in
theorem t_X11_holds {G : Gx} (a0 x1 : Int) (h : Hh) (K : Int → Hh → Prop) (h0 : 0 ≤ a0) (hf : w_X11_holds a0 x1 h K) : CT G M_X11_holds rm_X11_holds 0 0 [] [vr 11 a0 0, vl x1] h K := by
  unfold w_X11_holds at hf
  refine CT.of (ls0 := [(0, vr 11 a0 0), (1, vl x1)]) (plainFor_of_name (by decide +kernel)) (by decide +kernel) (Nat.le_of_ble_eq_true rfl) rfl rfl ?_
  refine p_lload_n dX11_holds_0 rfl 1 rfl ?_
  refine p_aload_n dX11_holds_1 rfl 0 rfl ?_
  refine p_get (c := 11) (vl (h a0 52)) dX11_holds_2 52 tb_945 (by decide) (by decide) (Or.inl rfl) h0 rfl rfl ?_
  refine p_lcmp (z := (if x1 < h a0 52 then (-1) else if x1 = h a0 52 then 0 else 1)) dX11_holds_5 rfl ?_
  refine p_if_ge (tgt := 14) (q := x1 ≥ h a0 52) dX11_holds_6 (by decide) (lc_ge x1 (h a0 52)) (fun hc => ?_) (fun hc => ?_)
  · replace hf := Eq.mp (if_pos hc) hf
    exact t_X11_holds_14 h0  _ _ hf
  · replace hf := Eq.mp (if_neg hc) hf
    refine p_aload_n dX11_holds_9 rfl 0 rfl ?_
    refine p_lload_n dX11_holds_10 rfl 1 rfl ?_
    refine p_putl (c := 11) dX11_holds_11 52 tb_945 (by decide) (by decide) (Or.inl rfl) h0 rfl rfl (fun _ => by decide) (up h a0 52 x1) rfl ?_
    replace hf := hb_e hf
    generalize up h a0 52 x1 = h2 at hf ⊢
    exact t_X11_holds_14 h0  _ _ hf
theorem ok_X11_holds : mOK M_X11_holds 1 := ⟨tb_1265, tb_9, by decide +kernel⟩
abbrev M_X11_tall : MD := (yX11_tall, cX11_tall, 21, some .long)
abbrev rm_X11_tall : Room := { frames := 2, cells := 0, slots := 0, locals := 46 }
def w_X11_tall_150 (K : Int → Hh → Prop) (B : Int → Int → Int → Int → Int → Int → Int → Int → Int → Int → Int → Int → Hh → Prop) (X156 : Int → Int → Int → Int → Int → Int → Int → Int → Int → Int → Hh → Prop) (a0 : Int) (v1 v2 v3 v5 v7 v8 v10 v12 v13 v14 v16 v18 : Int) (h : Hh) : Prop := vb (w32 (v18 + 1)) fun z12 => B v1 v2 v3 v5 v7 v8 v10 v12 v13 v14 v16 z12 h
set_option maxRecDepth 100000 in
set_option maxHeartbeats 4000000 in
theorem t_X11_tall_150 {G : Gx} {n0 : Int} {K : Int → Hh → Prop} {B : Int → Int → Int → Int → Int → Int → Int → Int → Int → Int → Int → Int → Hh → Prop} {X156 : Int → Int → Int → Int → Int → Int → Int → Int → Int → Int → Hh → Prop} {a0 : Int} (h0 : 0 ≤ a0) (hB : ∀ (v1 v2 v3 v5 v7 v8 v10 v12 v13 v14 v16 v18 : Int) (h : Hh), B v1 v2 v3 v5 v7 v8 v10 v12 v13 v14 v16 v18 h → PW G M_X11_tall rm_X11_tall 0 0 [] n0 K 70 [(0, vr 11 a0 0), (1, vi v1), (2, vi v2), (3, vl v3), (5, vl v5), (7, vi v7), (8, vl v8), (10, vl v10), (12, vi v12), (13, vi v13), (14, vl v14), (16, vl v16), (18, vi v18)] [] [] 0 0 h) (hX156 : ∀ (v1 v2 v3 v5 v7 v8 v10 v12 v14 v16 : Int) (h : Hh), X156 v1 v2 v3 v5 v7 v8 v10 v12 v14 v16 h → PW G M_X11_tall rm_X11_tall 0 0 [] n0 K 156 [(0, vr 11 a0 0), (1, vi v1), (2, vi v2), (3, vl v3), (5, vl v5), (7, vi v7), (8, vl v8), (10, vl v10), (12, vi v12), (14, vl v14), (16, vl v16)] [] [] 0 0 h)  (v1 v2 v3 v5 v7 v8 v10 v12 v13 v14 v16 v18 : Int) (h : Hh) (hf : w_X11_tall_150 K B X156 a0 v1 v2 v3 v5 v7 v8 v10 v12 v13 v14 v16 v18 h) : PW G M_X11_tall rm_X11_tall 0 0 [] n0 K 150 [(0, vr 11 a0 0), (1, vi v1), (2, vi v2), (3, vl v3), (5, vl v5), (7, vi v7), (8, vl v8), (10, vl v10), (12, vi v12), (13, vi v13), (14, vl v14), (16, vl v16), (18, vi v18)] [] [] 0 0 h := by
  unfold w_X11_tall_150 at hf
  refine p_iinc (ls' := [(18, vi (w32 (v18 + 1))), (0, vr 11 a0 0), (1, vi v1), (2, vi v2), (3, vl v3), (5, vl v5), (7, vi v7), (8, vl v8), (10, vl v10), (12, vi v12), (13, vi v13), (14, vl v14), (16, vl v16)]) dX11_tall_150 12 rfl (by decide) rfl ?_
  replace hf := vb_e hf
  generalize w32 (v18 + 1) = z12 at hf ⊢
  refine p_goto (tgt := 70) dX11_tall_153 (by decide) ?_
  refine p_sub (ls' := [(0, vr 11 a0 0), (1, vi v1), (2, vi v2), (3, vl v3), (5, vl v5), (7, vi v7), (8, vl v8), (10, vl v10), (12, vi v12), (13, vi v13), (14, vl v14), (16, vl v16), (18, vi z12)]) [1, 2, 3, 4, 5, 6, 7, 8, 9, 10, 11, 12, 0] rfl ?_
  exact hB _ _ _ _ _ _ _ _ _ _ _ _ _ hf
def w_X11_tall_131 (K : Int → Hh → Prop) (B : Int → Int → Int → Int → Int → Int → Int → Int → Int → Int → Int → Int → Hh → Prop) (X156 : Int → Int → Int → Int → Int → Int → Int → Int → Int → Int → Hh → Prop) (a0 : Int) (v1 v2 v3 v5 v7 v8 v10 v12 v13 v14 v18 v19 s0 : Int) (h : Hh) : Prop := if v12 ≠ w32 (v2 + 1) then (w_X11_tall_150 K B X156 a0 v1 v2 v3 v5 v7 v8 v10 v12 v13 v14 s0 v18 h) else (w_X11_holds a0 (w64 (v5 * v19)) h (fun _ h13 => w_X11_tall_150 K B X156 a0 v1 v2 v3 v5 v7 v8 v10 v12 v13 v14 s0 v18 h13))
set_option maxRecDepth 100000 in
set_option maxHeartbeats 4000000 in
theorem t_X11_tall_131 {G : Gx} {n0 : Int} {K : Int → Hh → Prop} {B : Int → Int → Int → Int → Int → Int → Int → Int → Int → Int → Int → Int → Hh → Prop} {X156 : Int → Int → Int → Int → Int → Int → Int → Int → Int → Int → Hh → Prop} {a0 : Int} (h0 : 0 ≤ a0) (hB : ∀ (v1 v2 v3 v5 v7 v8 v10 v12 v13 v14 v16 v18 : Int) (h : Hh), B v1 v2 v3 v5 v7 v8 v10 v12 v13 v14 v16 v18 h → PW G M_X11_tall rm_X11_tall 0 0 [] n0 K 70 [(0, vr 11 a0 0), (1, vi v1), (2, vi v2), (3, vl v3), (5, vl v5), (7, vi v7), (8, vl v8), (10, vl v10), (12, vi v12), (13, vi v13), (14, vl v14), (16, vl v16), (18, vi v18)] [] [] 0 0 h) (hX156 : ∀ (v1 v2 v3 v5 v7 v8 v10 v12 v14 v16 : Int) (h : Hh), X156 v1 v2 v3 v5 v7 v8 v10 v12 v14 v16 h → PW G M_X11_tall rm_X11_tall 0 0 [] n0 K 156 [(0, vr 11 a0 0), (1, vi v1), (2, vi v2), (3, vl v3), (5, vl v5), (7, vi v7), (8, vl v8), (10, vl v10), (12, vi v12), (14, vl v14), (16, vl v16)] [] [] 0 0 h)  (v1 v2 v3 v5 v7 v8 v10 v12 v13 v14 v18 v19 s0 : Int) (h : Hh) (hf : w_X11_tall_131 K B X156 a0 v1 v2 v3 v5 v7 v8 v10 v12 v13 v14 v18 v19 s0 h) : PW G M_X11_tall rm_X11_tall 0 0 [] n0 K 131 [(0, vr 11 a0 0), (1, vi v1), (2, vi v2), (3, vl v3), (5, vl v5), (7, vi v7), (8, vl v8), (10, vl v10), (12, vi v12), (13, vi v13), (14, vl v14), (18, vi v18), (19, vl v19)] [vl s0] [] 0 0 h := by
  unfold w_X11_tall_131 at hf
  refine p_lstore (ls' := [(16, vl s0), (0, vr 11 a0 0), (1, vi v1), (2, vi v2), (3, vl v3), (5, vl v5), (7, vi v7), (8, vl v8), (10, vl v10), (12, vi v12), (13, vi v13), (14, vl v14), (18, vi v18), (19, vl v19)]) dX11_tall_131 (by decide) rfl ?_
  refine p_iload dX11_tall_133 9 rfl ?_
  refine p_iload_n dX11_tall_135 rfl 3 rfl ?_
  refine p_iconst dX11_tall_136 (by decide) ?_
  refine p_iadd dX11_tall_137 ?_
  refine p_icmp_ne (tgt := 150) (q := v12 ≠ w32 (v2 + 1)) dX11_tall_138 (by decide) Iff.rfl (fun hc => ?_) (fun hc => ?_)
  · replace hf := Eq.mp (if_pos hc) hf
    refine p_sub (ls' := [(0, vr 11 a0 0), (1, vi v1), (2, vi v2), (3, vl v3), (5, vl v5), (7, vi v7), (8, vl v8), (10, vl v10), (12, vi v12), (13, vi v13), (14, vl v14), (16, vl s0), (18, vi v18)]) [1, 2, 3, 4, 5, 6, 7, 8, 9, 10, 11, 0, 12] rfl ?_
    exact t_X11_tall_150 h0 hB hX156 _ _ _ _ _ _ _ _ _ _ _ _ _ hf
  · replace hf := Eq.mp (if_neg hc) hf
    refine p_aload_n dX11_tall_141 rfl 1 rfl ?_
    refine p_lload dX11_tall_142 5 rfl ?_
    refine p_lload dX11_tall_144 13 rfl ?_
    refine p_lmul dX11_tall_146 ?_
    refine p_callVv dX11_tall_147 M_X11_holds rfl [vl (w64 (v5 * v19))] (t_X11_holds _ _ _ _ h0 hf) ok_X11_holds rfl (c := 11) (by decide) h0 rfl tb_1262 ⟨tb_1264, ts_95⟩ rfl (Nat.le_of_ble_eq_true rfl) ⟨rfl, rfl⟩ ⟨by decide, by decide⟩ ⟨by decide, by decide⟩ (fun _ h13 hf => ?_)
    refine p_sub (ls' := [(0, vr 11 a0 0), (1, vi v1), (2, vi v2), (3, vl v3), (5, vl v5), (7, vi v7), (8, vl v8), (10, vl v10), (12, vi v12), (13, vi v13), (14, vl v14), (16, vl s0), (18, vi v18)]) [1, 2, 3, 4, 5, 6, 7, 8, 9, 10, 11, 0, 12] rfl ?_
    exact t_X11_tall_150 h0 hB hX156 _ _ _ _ _ _ _ _ _ _ _ _ _ hf
def w_X11_tall_114 (K : Int → Hh → Prop) (B : Int → Int → Int → Int → Int → Int → Int → Int → Int → Int → Int → Int → Hh → Prop) (X156 : Int → Int → Int → Int → Int → Int → Int → Int → Int → Int → Hh → Prop) (a0 : Int) (v1 v2 v3 v5 v7 v8 v10 v12 v13 v16 v18 v19 s0 : Int) (h : Hh) : Prop := if v19 ≤ v16 then (w_X11_tall_131 K B X156 a0 v1 v2 v3 v5 v7 v8 v10 v12 v13 s0 v18 v19 v16 h) else (w_X11_tall_131 K B X156 a0 v1 v2 v3 v5 v7 v8 v10 v12 v13 s0 v18 v19 v19 h)
set_option maxRecDepth 100000 in
set_option maxHeartbeats 4000000 in
theorem t_X11_tall_114 {G : Gx} {n0 : Int} {K : Int → Hh → Prop} {B : Int → Int → Int → Int → Int → Int → Int → Int → Int → Int → Int → Int → Hh → Prop} {X156 : Int → Int → Int → Int → Int → Int → Int → Int → Int → Int → Hh → Prop} {a0 : Int} (h0 : 0 ≤ a0) (hB : ∀ (v1 v2 v3 v5 v7 v8 v10 v12 v13 v14 v16 v18 : Int) (h : Hh), B v1 v2 v3 v5 v7 v8 v10 v12 v13 v14 v16 v18 h → PW G M_X11_tall rm_X11_tall 0 0 [] n0 K 70 [(0, vr 11 a0 0), (1, vi v1), (2, vi v2), (3, vl v3), (5, vl v5), (7, vi v7), (8, vl v8), (10, vl v10), (12, vi v12), (13, vi v13), (14, vl v14), (16, vl v16), (18, vi v18)] [] [] 0 0 h) (hX156 : ∀ (v1 v2 v3 v5 v7 v8 v10 v12 v14 v16 : Int) (h : Hh), X156 v1 v2 v3 v5 v7 v8 v10 v12 v14 v16 h → PW G M_X11_tall rm_X11_tall 0 0 [] n0 K 156 [(0, vr 11 a0 0), (1, vi v1), (2, vi v2), (3, vl v3), (5, vl v5), (7, vi v7), (8, vl v8), (10, vl v10), (12, vi v12), (14, vl v14), (16, vl v16)] [] [] 0 0 h)  (v1 v2 v3 v5 v7 v8 v10 v12 v13 v16 v18 v19 s0 : Int) (h : Hh) (hf : w_X11_tall_114 K B X156 a0 v1 v2 v3 v5 v7 v8 v10 v12 v13 v16 v18 v19 s0 h) : PW G M_X11_tall rm_X11_tall 0 0 [] n0 K 114 [(0, vr 11 a0 0), (1, vi v1), (2, vi v2), (3, vl v3), (5, vl v5), (7, vi v7), (8, vl v8), (10, vl v10), (12, vi v12), (13, vi v13), (16, vl v16), (18, vi v18), (19, vl v19)] [vl s0] [] 0 0 h := by
  unfold w_X11_tall_114 at hf
  refine p_lstore (ls' := [(14, vl s0), (0, vr 11 a0 0), (1, vi v1), (2, vi v2), (3, vl v3), (5, vl v5), (7, vi v7), (8, vl v8), (10, vl v10), (12, vi v12), (13, vi v13), (16, vl v16), (18, vi v18), (19, vl v19)]) dX11_tall_114 (by decide) rfl ?_
  refine p_lload dX11_tall_116 13 rfl ?_
  refine p_lload dX11_tall_118 11 rfl ?_
  refine p_lcmp (z := (if v19 < v16 then (-1) else if v19 = v16 then 0 else 1)) dX11_tall_120 rfl ?_
  refine p_if_le (tgt := 129) (q := v19 ≤ v16) dX11_tall_121 (by decide) (lc_le v19 v16) (fun hc => ?_) (fun hc => ?_)
  · replace hf := Eq.mp (if_pos hc) hf
    refine p_lload dX11_tall_129 11 rfl ?_
    refine p_sub (ls' := [(0, vr 11 a0 0), (1, vi v1), (2, vi v2), (3, vl v3), (5, vl v5), (7, vi v7), (8, vl v8), (10, vl v10), (12, vi v12), (13, vi v13), (14, vl s0), (18, vi v18), (19, vl v19)]) [1, 2, 3, 4, 5, 6, 7, 8, 9, 10, 0, 12, 13] rfl ?_
    exact t_X11_tall_131 h0 hB hX156 _ _ _ _ _ _ _ _ _ _ _ _ _ _ hf
  · replace hf := Eq.mp (if_neg hc) hf
    refine p_lload dX11_tall_124 13 rfl ?_
    refine p_goto (tgt := 131) dX11_tall_126 (by decide) ?_
    refine p_sub (ls' := [(0, vr 11 a0 0), (1, vi v1), (2, vi v2), (3, vl v3), (5, vl v5), (7, vi v7), (8, vl v8), (10, vl v10), (12, vi v12), (13, vi v13), (14, vl s0), (18, vi v18), (19, vl v19)]) [1, 2, 3, 4, 5, 6, 7, 8, 9, 10, 0, 12, 13] rfl ?_
    exact t_X11_tall_131 h0 hB hX156 _ _ _ _ _ _ _ _ _ _ _ _ _ _ hf
def w_X11_tall_70 (K : Int → Hh → Prop) (X156 : Int → Int → Int → Int → Int → Int → Int → Int → Int → Int → Hh → Prop) (a0 : Int) : Nat → Int → Int → Int → Int → Int → Int → Int → Int → Int → Int → Int → Int → Hh → Prop
  | 0, _, _, _, _, _, _, _, _, _, _, _, _, _ => False
  | n + 1, v1, v2, v3, v5, v7, v8, v10, v12, v13, v14, v16, v18, h => ((0 : Int) ≤ w32 ((w32 (5 * v7)) + v13) ∧ w32 ((w32 (5 * v7)) + v13) < 30) ∧ (if v18 ≥ h (a0 + 9) (w32 ((w32 (5 * v7)) + v13)) then (X156 v1 v2 v3 v5 v7 v8 v10 v12 v14 v16 h) else (w_X11_signed a0 v7 v13 v18 h (fun r10 h11 => if r10 ≥ v14 then (w_X11_tall_114 K (w_X11_tall_70 K X156 a0 n) X156 a0 v1 v2 v3 v5 v7 v8 v10 v12 v13 v16 v18 r10 v14 h11) else (w_X11_tall_114 K (w_X11_tall_70 K X156 a0 n) X156 a0 v1 v2 v3 v5 v7 v8 v10 v12 v13 v16 v18 r10 r10 h11))))
set_option maxRecDepth 100000 in
set_option maxHeartbeats 4000000 in
theorem t_X11_tall_70 {G : Gx} {n0 : Int} {K : Int → Hh → Prop} {X156 : Int → Int → Int → Int → Int → Int → Int → Int → Int → Int → Hh → Prop} {a0 : Int} (h0 : 0 ≤ a0) (hX156 : ∀ (v1 v2 v3 v5 v7 v8 v10 v12 v14 v16 : Int) (h : Hh), X156 v1 v2 v3 v5 v7 v8 v10 v12 v14 v16 h → PW G M_X11_tall rm_X11_tall 0 0 [] n0 K 156 [(0, vr 11 a0 0), (1, vi v1), (2, vi v2), (3, vl v3), (5, vl v5), (7, vi v7), (8, vl v8), (10, vl v10), (12, vi v12), (14, vl v14), (16, vl v16)] [] [] 0 0 h) : ∀ (n : Nat) (v1 v2 v3 v5 v7 v8 v10 v12 v13 v14 v16 v18 : Int) (h : Hh), w_X11_tall_70 K X156 a0 n v1 v2 v3 v5 v7 v8 v10 v12 v13 v14 v16 v18 h → PW G M_X11_tall rm_X11_tall 0 0 [] n0 K 70 [(0, vr 11 a0 0), (1, vi v1), (2, vi v2), (3, vl v3), (5, vl v5), (7, vi v7), (8, vl v8), (10, vl v10), (12, vi v12), (13, vi v13), (14, vl v14), (16, vl v16), (18, vi v18)] [] [] 0 0 h := by
  intro n
  induction n with
  | zero =>
    intro v1 v2 v3 v5 v7 v8 v10 v12 v13 v14 v16 v18 h hf
    rw [w_X11_tall_70] at hf
    exact hf.elim
  | succ n ih =>
    intro v1 v2 v3 v5 v7 v8 v10 v12 v13 v14 v16 v18 h hf
    rw [w_X11_tall_70] at hf
    refine p_iload dX11_tall_70 12 rfl ?_
    refine p_aload_n dX11_tall_72 rfl 0 rfl ?_
    refine p_lay (c := 11) (tq := 100) (n := 30) dX11_tall_73 16 9 tb_909 (by decide) (by decide) h0 (by decide) (by decide) (fun _ => rfl) (vr 100 (a0 + 9) 30) rfl ?_
    refine p_iconst dX11_tall_76 (by decide) ?_
    refine p_iload dX11_tall_77 5 rfl ?_
    refine p_imul dX11_tall_79 ?_
    refine p_iload dX11_tall_80 9 rfl ?_
    refine p_iadd dX11_tall_82 ?_
    obtain ⟨c9, hf⟩ := hf
    refine p_iald dX11_tall_83 (by omega) c9 ?_
    refine p_icmp_ge (tgt := 156) (q := v18 ≥ h (a0 + 9) (w32 ((w32 (5 * v7)) + v13))) dX11_tall_84 (by decide) Iff.rfl (fun hc => ?_) (fun hc => ?_)
    · replace hf := Eq.mp (if_pos hc) hf
      refine p_sub (ls' := [(0, vr 11 a0 0), (1, vi v1), (2, vi v2), (3, vl v3), (5, vl v5), (7, vi v7), (8, vl v8), (10, vl v10), (12, vi v12), (14, vl v14), (16, vl v16)]) [0, 1, 2, 3, 4, 5, 6, 7, 8, 10, 11] rfl ?_
      exact hX156 _ _ _ _ _ _ _ _ _ _ _ hf
    · replace hf := Eq.mp (if_neg hc) hf
      refine p_aload_n dX11_tall_87 rfl 0 rfl ?_
      refine p_iload dX11_tall_88 5 rfl ?_
      refine p_iload dX11_tall_90 9 rfl ?_
      refine p_iload dX11_tall_92 12 rfl ?_
      refine p_callVl dX11_tall_94 M_X11_signed rfl [vi v7, vi v13, vi v18] (t_X11_signed _ _ _ _ _ _ h0 hf) ok_X11_signed rfl (c := 11) (by decide) h0 rfl tb_1240 ⟨tb_1242, ts_92⟩ rfl (Nat.le_of_ble_eq_true rfl) ⟨rfl, rfl⟩ ⟨by decide, by decide⟩ ⟨by decide, by decide⟩ (fun r10 h11 hf => ?_)
      refine p_lstore (ls' := [(19, vl r10), (0, vr 11 a0 0), (1, vi v1), (2, vi v2), (3, vl v3), (5, vl v5), (7, vi v7), (8, vl v8), (10, vl v10), (12, vi v12), (13, vi v13), (14, vl v14), (16, vl v16), (18, vi v18)]) dX11_tall_97 (by decide) rfl ?_
      refine p_lload dX11_tall_99 0 rfl ?_
      refine p_lload dX11_tall_101 11 rfl ?_
      refine p_lcmp (z := (if r10 < v14 then (-1) else if r10 = v14 then 0 else 1)) dX11_tall_103 rfl ?_
      refine p_if_ge (tgt := 112) (q := r10 ≥ v14) dX11_tall_104 (by decide) (lc_ge r10 v14) (fun hc => ?_) (fun hc => ?_)
      · replace hf := Eq.mp (if_pos hc) hf
        refine p_lload dX11_tall_112 11 rfl ?_
        refine p_sub (ls' := [(0, vr 11 a0 0), (1, vi v1), (2, vi v2), (3, vl v3), (5, vl v5), (7, vi v7), (8, vl v8), (10, vl v10), (12, vi v12), (13, vi v13), (16, vl v16), (18, vi v18), (19, vl r10)]) [1, 2, 3, 4, 5, 6, 7, 8, 9, 10, 12, 13, 0] rfl ?_
        exact t_X11_tall_114 h0 ih hX156 _ _ _ _ _ _ _ _ _ _ _ _ _ _ hf
      · replace hf := Eq.mp (if_neg hc) hf
        refine p_lload dX11_tall_107 0 rfl ?_
        refine p_goto (tgt := 114) dX11_tall_109 (by decide) ?_
        refine p_sub (ls' := [(0, vr 11 a0 0), (1, vi v1), (2, vi v2), (3, vl v3), (5, vl v5), (7, vi v7), (8, vl v8), (10, vl v10), (12, vi v12), (13, vi v13), (16, vl v16), (18, vi v18), (19, vl r10)]) [1, 2, 3, 4, 5, 6, 7, 8, 9, 10, 12, 13, 0] rfl ?_
        exact t_X11_tall_114 h0 ih hX156 _ _ _ _ _ _ _ _ _ _ _ _ _ _ hf
def w_X11_tall_180 (K : Int → Hh → Prop) (B : Int → Int → Int → Int → Int → Int → Int → Int → Hh → Prop) (X200 : Int → Int → Int → Int → Hh → Prop) (a0 : Int) (v1 v2 v3 v5 v7 v8 v10 v12 v14 v16 : Int) (h : Hh) : Prop := vb (w64 (v8 + v14)) fun z25 => vb (w64 (v10 + v16)) fun z26 => vb (w32 (v12 + 1)) fun z27 => B v1 v2 v3 v5 v7 z25 z26 z27 h
set_option maxRecDepth 100000 in
set_option maxHeartbeats 4000000 in
theorem t_X11_tall_180 {G : Gx} {n0 : Int} {K : Int → Hh → Prop} {B : Int → Int → Int → Int → Int → Int → Int → Int → Hh → Prop} {X200 : Int → Int → Int → Int → Hh → Prop} {a0 : Int} (h0 : 0 ≤ a0) (hB : ∀ (v1 v2 v3 v5 v7 v8 v10 v12 : Int) (h : Hh), B v1 v2 v3 v5 v7 v8 v10 v12 h → PW G M_X11_tall rm_X11_tall 0 0 [] n0 K 31 [(0, vr 11 a0 0), (1, vi v1), (2, vi v2), (3, vl v3), (5, vl v5), (7, vi v7), (8, vl v8), (10, vl v10), (12, vi v12)] [] [] 0 0 h) (hX200 : ∀ (v3 v5 v8 v10 : Int) (h : Hh), X200 v3 v5 v8 v10 h → PW G M_X11_tall rm_X11_tall 0 0 [] n0 K 200 [(0, vr 11 a0 0), (3, vl v3), (5, vl v5), (8, vl v8), (10, vl v10)] [] [] 0 0 h)  (v1 v2 v3 v5 v7 v8 v10 v12 v14 v16 : Int) (h : Hh) (hf : w_X11_tall_180 K B X200 a0 v1 v2 v3 v5 v7 v8 v10 v12 v14 v16 h) : PW G M_X11_tall rm_X11_tall 0 0 [] n0 K 180 [(0, vr 11 a0 0), (1, vi v1), (2, vi v2), (3, vl v3), (5, vl v5), (7, vi v7), (8, vl v8), (10, vl v10), (12, vi v12), (14, vl v14), (16, vl v16)] [] [] 0 0 h := by
  unfold w_X11_tall_180 at hf
  refine p_lload dX11_tall_180 6 rfl ?_
  refine p_lload dX11_tall_182 9 rfl ?_
  refine p_ladd dX11_tall_184 ?_
  refine p_lstore (ls' := [(8, vl (w64 (v8 + v14))), (0, vr 11 a0 0), (1, vi v1), (2, vi v2), (3, vl v3), (5, vl v5), (7, vi v7), (10, vl v10), (12, vi v12), (14, vl v14), (16, vl v16)]) dX11_tall_185 (by decide) rfl ?_
  replace hf := vb_e hf
  generalize (w64 (v8 + v14)) = z25 at hf ⊢
  refine p_lload dX11_tall_187 7 rfl ?_
  refine p_lload dX11_tall_189 10 rfl ?_
  refine p_ladd dX11_tall_191 ?_
  refine p_lstore (ls' := [(10, vl (w64 (v10 + v16))), (8, vl z25), (0, vr 11 a0 0), (1, vi v1), (2, vi v2), (3, vl v3), (5, vl v5), (7, vi v7), (12, vi v12), (14, vl v14), (16, vl v16)]) dX11_tall_192 (by decide) rfl ?_
  replace hf := vb_e hf
  generalize (w64 (v10 + v16)) = z26 at hf ⊢
  refine p_iinc (ls' := [(12, vi (w32 (v12 + 1))), (10, vl z26), (8, vl z25), (0, vr 11 a0 0), (1, vi v1), (2, vi v2), (3, vl v3), (5, vl v5), (7, vi v7), (14, vl v14), (16, vl v16)]) dX11_tall_194 8 rfl (by decide) rfl ?_
  replace hf := vb_e hf
  generalize w32 (v12 + 1) = z27 at hf ⊢
  refine p_goto (tgt := 31) dX11_tall_197 (by decide) ?_
  refine p_sub (ls' := [(0, vr 11 a0 0), (1, vi v1), (2, vi v2), (3, vl v3), (5, vl v5), (7, vi v7), (8, vl z25), (10, vl z26), (12, vi z27)]) [3, 4, 5, 6, 7, 8, 2, 1, 0] rfl ?_
  exact hB _ _ _ _ _ _ _ _ _ hf
def w_X11_tall_31 (K : Int → Hh → Prop) (X200 : Int → Int → Int → Int → Hh → Prop) (a0 : Int) : Nat → Int → Int → Int → Int → Int → Int → Int → Int → Hh → Prop
  | 0, _, _, _, _, _, _, _, _, _ => False
  | n + 1, v1, v2, v3, v5, v7, v8, v10, v12, h => if v12 > w32 (v2 + 1) then (X200 v3 v5 v8 v10 h) else (((0 : Int) ≤ w32 ((w32 (4 * v1)) + v12) ∧ w32 ((w32 (4 * v1)) + v12) < 24) ∧ (vb (h (a0 + 12) (w32 ((w32 (4 * v1)) + v12))) fun z6 => w_X11_signed a0 v7 z6 0 h (fun r7 h8 => w_X11_tall_70 K (fun u15 u16 u17 u18 u19 u20 u21 u22 u23 u24 h14 => if u22 ≠ w32 (u16 + 1) then (w_X11_tall_180 K (w_X11_tall_31 K X200 a0 n) X200 a0 u15 u16 u17 u18 u19 u20 u21 u22 u23 u24 h14) else (w_X11_holds a0 (w64 (u17 * u20)) h14 (fun _ h28 => w_X11_holds a0 (w64 (u17 * u21)) h28 (fun _ h29 => w_X11_tall_180 K (w_X11_tall_31 K X200 a0 n) X200 a0 u15 u16 u17 u18 u19 u20 u21 u22 u23 u24 h29)))) a0 NF v1 v2 v3 v5 v7 v8 v10 v12 z6 r7 r7 0 h8)))
set_option maxRecDepth 100000 in
set_option maxHeartbeats 4000000 in
theorem t_X11_tall_31 {G : Gx} {n0 : Int} {K : Int → Hh → Prop} {X200 : Int → Int → Int → Int → Hh → Prop} {a0 : Int} (h0 : 0 ≤ a0) (hX200 : ∀ (v3 v5 v8 v10 : Int) (h : Hh), X200 v3 v5 v8 v10 h → PW G M_X11_tall rm_X11_tall 0 0 [] n0 K 200 [(0, vr 11 a0 0), (3, vl v3), (5, vl v5), (8, vl v8), (10, vl v10)] [] [] 0 0 h) : ∀ (n : Nat) (v1 v2 v3 v5 v7 v8 v10 v12 : Int) (h : Hh), w_X11_tall_31 K X200 a0 n v1 v2 v3 v5 v7 v8 v10 v12 h → PW G M_X11_tall rm_X11_tall 0 0 [] n0 K 31 [(0, vr 11 a0 0), (1, vi v1), (2, vi v2), (3, vl v3), (5, vl v5), (7, vi v7), (8, vl v8), (10, vl v10), (12, vi v12)] [] [] 0 0 h := by
  intro n
  induction n with
  | zero =>
    intro v1 v2 v3 v5 v7 v8 v10 v12 h hf
    rw [w_X11_tall_31] at hf
    exact hf.elim
  | succ n ih =>
    intro v1 v2 v3 v5 v7 v8 v10 v12 h hf
    rw [w_X11_tall_31] at hf
    refine p_iload dX11_tall_31 8 rfl ?_
    refine p_iload_n dX11_tall_33 rfl 2 rfl ?_
    refine p_iconst dX11_tall_34 (by decide) ?_
    refine p_iadd dX11_tall_35 ?_
    refine p_icmp_gt (tgt := 200) (q := v12 > w32 (v2 + 1)) dX11_tall_36 (by decide) Iff.rfl (fun hc => ?_) (fun hc => ?_)
    · replace hf := Eq.mp (if_pos hc) hf
      refine p_sub (ls' := [(0, vr 11 a0 0), (3, vl v3), (5, vl v5), (8, vl v8), (10, vl v10)]) [0, 3, 4, 6, 7] rfl ?_
      exact hX200 _ _ _ _ _ hf
    · replace hf := Eq.mp (if_neg hc) hf
      refine p_aload_n dX11_tall_39 rfl 0 rfl ?_
      refine p_lay (c := 11) (tq := 100) (n := 24) dX11_tall_40 20 12 tb_913 (by decide) (by decide) h0 (by decide) (by decide) (fun _ => rfl) (vr 100 (a0 + 12) 24) rfl ?_
      refine p_iconst dX11_tall_43 (by decide) ?_
      refine p_iload_n dX11_tall_44 rfl 1 rfl ?_
      refine p_imul dX11_tall_45 ?_
      refine p_iload dX11_tall_46 8 rfl ?_
      refine p_iadd dX11_tall_48 ?_
      obtain ⟨c5, hf⟩ := hf
      refine p_iald dX11_tall_49 (by omega) c5 ?_
      refine p_istore (ls' := [(13, vi (h (a0 + 12) (w32 ((w32 (4 * v1)) + v12)))), (0, vr 11 a0 0), (1, vi v1), (2, vi v2), (3, vl v3), (5, vl v5), (7, vi v7), (8, vl v8), (10, vl v10), (12, vi v12)]) dX11_tall_50 (by decide) rfl ?_
      replace hf := vb_e hf
      generalize (h (a0 + 12) (w32 ((w32 (4 * v1)) + v12))) = z6 at hf ⊢
      refine p_aload_n dX11_tall_52 rfl 1 rfl ?_
      refine p_iload dX11_tall_53 6 rfl ?_
      refine p_iload dX11_tall_55 0 rfl ?_
      refine p_iconst dX11_tall_57 (by decide) ?_
      refine p_callVl dX11_tall_58 M_X11_signed rfl [vi v7, vi z6, vi 0] (t_X11_signed _ _ _ _ _ _ h0 hf) ok_X11_signed rfl (c := 11) (by decide) h0 rfl tb_1240 ⟨tb_1242, ts_92⟩ rfl (Nat.le_of_ble_eq_true rfl) ⟨rfl, rfl⟩ ⟨by decide, by decide⟩ ⟨by decide, by decide⟩ (fun r7 h8 hf => ?_)
      refine p_lstore (ls' := [(14, vl r7), (13, vi z6), (0, vr 11 a0 0), (1, vi v1), (2, vi v2), (3, vl v3), (5, vl v5), (7, vi v7), (8, vl v8), (10, vl v10), (12, vi v12)]) dX11_tall_61 (by decide) rfl ?_
      refine p_lload dX11_tall_63 0 rfl ?_
      refine p_lstore (ls' := [(16, vl r7), (14, vl r7), (13, vi z6), (0, vr 11 a0 0), (1, vi v1), (2, vi v2), (3, vl v3), (5, vl v5), (7, vi v7), (8, vl v8), (10, vl v10), (12, vi v12)]) dX11_tall_65 (by decide) rfl ?_
      refine p_iconst dX11_tall_67 (by decide) ?_
      refine p_istore (ls' := [(18, vi 0), (16, vl r7), (14, vl r7), (13, vi z6), (0, vr 11 a0 0), (1, vi v1), (2, vi v2), (3, vl v3), (5, vl v5), (7, vi v7), (8, vl v8), (10, vl v10), (12, vi v12)]) dX11_tall_68 (by decide) rfl ?_
      refine p_sub (ls' := [(0, vr 11 a0 0), (1, vi v1), (2, vi v2), (3, vl v3), (5, vl v5), (7, vi v7), (8, vl v8), (10, vl v10), (12, vi v12), (13, vi z6), (14, vl r7), (16, vl r7), (18, vi 0)]) [4, 5, 6, 7, 8, 9, 10, 11, 12, 3, 2, 1, 0] rfl ?_
      refine t_X11_tall_70 h0 ?_ NF _ _ _ _ _ _ _ _ _ _ _ _ _ hf
      · intro u15 u16 u17 u18 u19 u20 u21 u22 u23 u24 h14 hf
        refine p_iload dX11_tall_156 8 rfl ?_
        refine p_iload_n dX11_tall_158 rfl 2 rfl ?_
        refine p_iconst dX11_tall_159 (by decide) ?_
        refine p_iadd dX11_tall_160 ?_
        refine p_icmp_ne (tgt := 180) (q := u22 ≠ w32 (u16 + 1)) dX11_tall_161 (by decide) Iff.rfl (fun hc => ?_) (fun hc => ?_)
        · replace hf := Eq.mp (if_pos hc) hf
          exact t_X11_tall_180 h0 ih hX200 _ _ _ _ _ _ _ _ _ _ _ hf
        · replace hf := Eq.mp (if_neg hc) hf
          refine p_aload_n dX11_tall_164 rfl 0 rfl ?_
          refine p_lload_n dX11_tall_165 rfl 3 rfl ?_
          refine p_lload dX11_tall_166 6 rfl ?_
          refine p_lmul dX11_tall_168 ?_
          refine p_callVv dX11_tall_169 M_X11_holds rfl [vl (w64 (u17 * u20))] (t_X11_holds _ _ _ _ h0 hf) ok_X11_holds rfl (c := 11) (by decide) h0 rfl tb_1262 ⟨tb_1264, ts_95⟩ rfl (Nat.le_of_ble_eq_true rfl) ⟨rfl, rfl⟩ ⟨by decide, by decide⟩ ⟨by decide, by decide⟩ (fun _ h28 hf => ?_)
          refine p_aload_n dX11_tall_172 rfl 0 rfl ?_
          refine p_lload_n dX11_tall_173 rfl 3 rfl ?_
          refine p_lload dX11_tall_174 7 rfl ?_
          refine p_lmul dX11_tall_176 ?_
          refine p_callVv dX11_tall_177 M_X11_holds rfl [vl (w64 (u17 * u21))] (t_X11_holds _ _ _ _ h0 hf) ok_X11_holds rfl (c := 11) (by decide) h0 rfl tb_1262 ⟨tb_1264, ts_95⟩ rfl (Nat.le_of_ble_eq_true rfl) ⟨rfl, rfl⟩ ⟨by decide, by decide⟩ ⟨by decide, by decide⟩ (fun _ h29 hf => ?_)
          exact t_X11_tall_180 h0 ih hX200 _ _ _ _ _ _ _ _ _ _ _ hf
def w_X11_tall (a0 x1 x2 x3 x5 : Int) (h : Hh) (K : Int → Hh → Prop) : Prop := ((0 : Int) ≤ x1 ∧ x1 < 6) ∧ (vb (h (a0 + 11) x1) fun z2 => hb (up h a0 52 9000000000000000000) fun h3 => hb (up h3 a0 53 (-9000000000000000000)) fun h4 => w_X11_tall_31 K (fun u31 u32 u33 u34 h30 => w_X11_nearest (w64 ((w64 (u33 * u31)) * u32)) (w64 (u31 + u32)) h30 (fun r35 h36 => w_X11_holds a0 r35 h36 (fun _ h37 => w_X11_nearest (w64 ((w64 (u34 * u31)) * u32)) (w64 (u31 + u32)) h37 (fun r38 h39 => w_X11_holds a0 r38 h39 (fun _ h40 => K (w64 ((h40 a0 53) - (h40 a0 52))) h40))))) a0 NF x1 x2 x3 x5 z2 0 0 0 h4)
set_option maxRecDepth 100000 in
set_option maxHeartbeats 4000000 in
theorem t_X11_tall {G : Gx} (a0 x1 x2 x3 x5 : Int) (h : Hh) (K : Int → Hh → Prop) (h0 : 0 ≤ a0) (hf : w_X11_tall a0 x1 x2 x3 x5 h K) : CT G M_X11_tall rm_X11_tall 0 0 [] [vr 11 a0 0, vi x1, vi x2, vl x3, vl x5] h K := by
  unfold w_X11_tall at hf
  refine CT.of (ls0 := [(0, vr 11 a0 0), (1, vi x1), (2, vi x2), (3, vl x3), (5, vl x5)]) (plainFor_of_name (by decide +kernel)) (by decide +kernel) (Nat.le_of_ble_eq_true rfl) rfl rfl ?_
  refine p_aload_n dX11_tall_0 rfl 0 rfl ?_
  refine p_lay (c := 11) (tq := 100) (n := 6) dX11_tall_1 19 11 tb_912 (by decide) (by decide) h0 (by decide) (by decide) (fun _ => rfl) (vr 100 (a0 + 11) 6) rfl ?_
  refine p_iload_n dX11_tall_4 rfl 1 rfl ?_
  obtain ⟨c1, hf⟩ := hf
  refine p_iald dX11_tall_5 (by omega) c1 ?_
  refine p_istore (ls' := [(7, vi (h (a0 + 11) x1)), (0, vr 11 a0 0), (1, vi x1), (2, vi x2), (3, vl x3), (5, vl x5)]) dX11_tall_6 (by decide) rfl ?_
  replace hf := vb_e hf
  generalize (h (a0 + 11) x1) = z2 at hf ⊢
  refine p_aload_n dX11_tall_8 rfl 1 rfl ?_
  refine p_ldc2 (z := 9000000000000000000) dX11_tall_9 tb_1260 (by decide) ?_
  refine p_putl (c := 11) dX11_tall_12 52 tb_945 (by decide) (by decide) (Or.inl rfl) h0 rfl rfl (fun _ => by decide) (up h a0 52 9000000000000000000) rfl ?_
  replace hf := hb_e hf
  generalize up h a0 52 9000000000000000000 = h3 at hf ⊢
  refine p_aload_n dX11_tall_15 rfl 1 rfl ?_
  refine p_ldc2 (z := (-9000000000000000000)) dX11_tall_16 tb_1261 (by decide) ?_
  refine p_putl (c := 11) dX11_tall_19 53 tb_946 (by decide) (by decide) (Or.inl rfl) h0 rfl rfl (fun _ => by decide) (up h3 a0 53 (-9000000000000000000)) rfl ?_
  replace hf := hb_e hf
  generalize up h3 a0 53 (-9000000000000000000) = h4 at hf ⊢
  refine p_lconst (z := 0) dX11_tall_22 rfl ?_
  refine p_lstore (ls' := [(8, vl 0), (7, vi z2), (0, vr 11 a0 0), (1, vi x1), (2, vi x2), (3, vl x3), (5, vl x5)]) dX11_tall_23 (by decide) rfl ?_
  refine p_lconst (z := 0) dX11_tall_25 rfl ?_
  refine p_lstore (ls' := [(10, vl 0), (8, vl 0), (7, vi z2), (0, vr 11 a0 0), (1, vi x1), (2, vi x2), (3, vl x3), (5, vl x5)]) dX11_tall_26 (by decide) rfl ?_
  refine p_iconst dX11_tall_28 (by decide) ?_
  refine p_istore (ls' := [(12, vi 0), (10, vl 0), (8, vl 0), (7, vi z2), (0, vr 11 a0 0), (1, vi x1), (2, vi x2), (3, vl x3), (5, vl x5)]) dX11_tall_29 (by decide) rfl ?_
  refine p_sub (ls' := [(0, vr 11 a0 0), (1, vi x1), (2, vi x2), (3, vl x3), (5, vl x5), (7, vi z2), (8, vl 0), (10, vl 0), (12, vi 0)]) [4, 5, 6, 7, 8, 3, 2, 1, 0] rfl ?_
  refine t_X11_tall_31 h0 ?_ NF _ _ _ _ _ _ _ _ _ hf
  · intro u31 u32 u33 u34 h30 hf
    refine p_aload_n dX11_tall_200 rfl 0 rfl ?_
    refine p_lload dX11_tall_201 3 rfl ?_
    refine p_lload_n dX11_tall_203 rfl 1 rfl ?_
    refine p_lmul dX11_tall_204 ?_
    refine p_lload dX11_tall_205 2 rfl ?_
    refine p_lmul dX11_tall_207 ?_
    refine p_lload_n dX11_tall_208 rfl 1 rfl ?_
    refine p_lload dX11_tall_209 2 rfl ?_
    refine p_ladd dX11_tall_211 ?_
    refine p_callSl dX11_tall_212 M_X11_nearest rfl [vl (w64 ((w64 (u33 * u31)) * u32)), vl (w64 (u31 + u32))] (t_X11_nearest _ _ _ _ hf) ok_X11_nearest rfl tb_1138 tb_1139 rfl (Nat.le_of_ble_eq_true rfl) ⟨rfl, rfl⟩ ⟨by decide, by decide⟩ ⟨by decide, by decide⟩ (fun r35 h36 hf => ?_)
    refine p_callVv dX11_tall_215 M_X11_holds rfl [vl r35] (t_X11_holds _ _ _ _ h0 hf) ok_X11_holds rfl (c := 11) (by decide) h0 rfl tb_1262 ⟨tb_1264, ts_95⟩ rfl (Nat.le_of_ble_eq_true rfl) ⟨rfl, rfl⟩ ⟨by decide, by decide⟩ ⟨by decide, by decide⟩ (fun _ h37 hf => ?_)
    refine p_aload_n dX11_tall_218 rfl 0 rfl ?_
    refine p_lload dX11_tall_219 4 rfl ?_
    refine p_lload_n dX11_tall_221 rfl 1 rfl ?_
    refine p_lmul dX11_tall_222 ?_
    refine p_lload dX11_tall_223 2 rfl ?_
    refine p_lmul dX11_tall_225 ?_
    refine p_lload_n dX11_tall_226 rfl 1 rfl ?_
    refine p_lload dX11_tall_227 2 rfl ?_
    refine p_ladd dX11_tall_229 ?_
    refine p_callSl dX11_tall_230 M_X11_nearest rfl [vl (w64 ((w64 (u34 * u31)) * u32)), vl (w64 (u31 + u32))] (t_X11_nearest _ _ _ _ hf) ok_X11_nearest rfl tb_1138 tb_1139 rfl (Nat.le_of_ble_eq_true rfl) ⟨rfl, rfl⟩ ⟨by decide, by decide⟩ ⟨by decide, by decide⟩ (fun r38 h39 hf => ?_)
    refine p_callVv dX11_tall_233 M_X11_holds rfl [vl r38] (t_X11_holds _ _ _ _ h0 hf) ok_X11_holds rfl (c := 11) (by decide) h0 rfl tb_1262 ⟨tb_1264, ts_95⟩ rfl (Nat.le_of_ble_eq_true rfl) ⟨rfl, rfl⟩ ⟨by decide, by decide⟩ ⟨by decide, by decide⟩ (fun _ h40 hf => ?_)
    refine p_aload_n dX11_tall_236 rfl 0 rfl ?_
    refine p_get (c := 11) (vl (h40 a0 53)) dX11_tall_237 53 tb_946 (by decide) (by decide) (Or.inl rfl) h0 rfl rfl ?_
    refine p_aload_n dX11_tall_240 rfl 0 rfl ?_
    refine p_get (c := 11) (vl (h40 a0 52)) dX11_tall_241 52 tb_945 (by decide) (by decide) (Or.inl rfl) h0 rfl rfl ?_
    refine p_lsub dX11_tall_244 ?_
    exact p_lret dX11_tall_245 rfl (by decide) (by decide) (fun _ q => absurd q List.not_mem_nil) hf
theorem ok_X11_tall : mOK M_X11_tall 4 := ⟨tb_1259, tb_9, by decide +kernel⟩
abbrev M_X11_page : MD := (yX11_page, cX11_page, 4, some .int)
abbrev rm_X11_page : Room := { frames := 3, cells := 0, slots := 0, locals := 86 }
def w_X11_page_35 (K : Int → Hh → Prop) (a0 : Int) (h : Hh) : Prop := K (-1) h
set_option maxRecDepth 100000 in
set_option maxHeartbeats 4000000 in
theorem t_X11_page_35 {G : Gx} {n0 : Int} {K : Int → Hh → Prop} {a0 : Int} (h0 : 0 ≤ a0)  (h : Hh) (hf : w_X11_page_35 K  a0  h) : PW G M_X11_page rm_X11_page 0 0 [] n0 K 35 [] [] [] 0 0 h := by
  unfold w_X11_page_35 at hf
  refine p_iconst dX11_page_35 (by decide) ?_
  exact p_iret dX11_page_36 rfl (by decide) (by decide) (fun _ q => absurd q List.not_mem_nil) hf
def w_X11_page_79 (K : Int → Hh → Prop) (a0 : Int) (s0 : Int) (h : Hh) : Prop := K s0 h
set_option maxRecDepth 100000 in
set_option maxHeartbeats 4000000 in
theorem t_X11_page_79 {G : Gx} {n0 : Int} {K : Int → Hh → Prop} {a0 : Int} (h0 : 0 ≤ a0)  (s0 : Int) (h : Hh) (hf : w_X11_page_79 K  a0 s0 h) : PW G M_X11_page rm_X11_page 0 0 [] n0 K 79 [] [vi s0] [] 0 0 h := by
  unfold w_X11_page_79 at hf
  exact p_iret dX11_page_79 rfl (by decide) (by decide) (fun _ q => absurd q List.not_mem_nil) hf
def w_X11_page (a0 x1 x2 x3 : Int) (h : Hh) (K : Int → Hh → Prop) : Prop := w_X11_isChart a0 x1 h (fun r1 h2 => if r1 = 0 then (w_X11_page_35 K  a0  h2) else (w_X11_pagesOf a0 x1 h2 (fun r3 h4 => w_X11_in x2 0 (w32 (r3 - 1)) h4 (fun r5 h6 => if r5 = 0 then (w_X11_page_35 K  a0  h6) else (w_X11_in x3 0 1 h6 (fun r7 h8 => if r7 ≠ 0 then (if x3 ≠ 0 then (((0 : Int) ≤ w32 ((w32 (3 * x1)) + x2) ∧ w32 ((w32 (3 * x1)) + x2) < 18) ∧ (w_X11_tall a0 x1 x2 (h8 (a0 + 14) (w32 ((w32 (3 * x1)) + x2))) (h8 (a0 + 15) (w32 ((w32 (3 * x1)) + x2))) h8 (fun r10 h11 => w_X11_page_79 K  a0 (w32 r10) h11))) else (w_X11_mid a0 x1 x2 h8 (fun r12 h13 => w_X11_page_79 K  a0 r12 h13))) else (w_X11_page_35 K  a0  h8)))))))
set_option maxRecDepth 100000 in
set_option maxHeartbeats 4000000 in
theorem t_X11_page {G : Gx} (a0 x1 x2 x3 : Int) (h : Hh) (K : Int → Hh → Prop) (h0 : 0 ≤ a0) (hf : w_X11_page a0 x1 x2 x3 h K) : CT G M_X11_page rm_X11_page 0 0 [] [vr 11 a0 0, vi x1, vi x2, vi x3] h K := by
  unfold w_X11_page at hf
  refine CT.of (ls0 := [(0, vr 11 a0 0), (1, vi x1), (2, vi x2), (3, vi x3)]) (plainFor_of_name (by decide +kernel)) (by decide +kernel) (Nat.le_of_ble_eq_true rfl) rfl rfl ?_
  refine p_aload_n dX11_page_0 rfl 0 rfl ?_
  refine p_iload_n dX11_page_1 rfl 1 rfl ?_
  refine p_callVi dX11_page_2 M_X11_isChart (Or.inr rfl) [vi x1] (t_X11_isChart _ _ _ _ h0 hf) ok_X11_isChart rfl (c := 11) (by decide) h0 rfl tb_1165 ⟨tb_1167, ts_81⟩ rfl (Nat.le_of_ble_eq_true rfl) ⟨rfl, rfl⟩ ⟨by decide, by decide⟩ ⟨by decide, by decide⟩ (fun r1 h2 hf => ?_)
  refine p_if_eq (tgt := 35) (q := r1 = 0) dX11_page_5 (by decide) Iff.rfl (fun hc => ?_) (fun hc => ?_)
  · replace hf := Eq.mp (if_pos hc) hf
    refine p_sub (ls' := []) [] rfl ?_
    exact t_X11_page_35 h0   _ hf
  · replace hf := Eq.mp (if_neg hc) hf
    refine p_iload_n dX11_page_8 rfl 2 rfl ?_
    refine p_i2l dX11_page_9 ?_
    refine p_lconst (z := 0) dX11_page_10 rfl ?_
    refine p_aload_n dX11_page_11 rfl 0 rfl ?_
    refine p_iload_n dX11_page_12 rfl 1 rfl ?_
    refine p_callVi dX11_page_13 M_X11_pagesOf (Or.inl rfl) [vi x1] (t_X11_pagesOf _ _ _ _ h0 hf) ok_X11_pagesOf rfl (c := 11) (by decide) h0 rfl tb_1211 ⟨tb_1213, ts_87⟩ rfl (Nat.le_of_ble_eq_true rfl) ⟨rfl, rfl⟩ ⟨by decide, by decide⟩ ⟨by decide, by decide⟩ (fun r3 h4 hf => ?_)
    refine p_iconst dX11_page_16 (by decide) ?_
    refine p_isub dX11_page_17 ?_
    refine p_i2l dX11_page_18 ?_
    refine p_callSi dX11_page_19 M_X11_in (Or.inr rfl) [vl x2, vl 0, vl (w32 (r3 - 1))] (t_X11_in _ _ _ _ _ hf) ok_X11_in rfl tb_1079 tb_1080 rfl (Nat.le_of_ble_eq_true rfl) ⟨rfl, rfl⟩ ⟨by decide, by decide⟩ ⟨by decide, by decide⟩ (fun r5 h6 hf => ?_)
    refine p_if_eq (tgt := 35) (q := r5 = 0) dX11_page_22 (by decide) Iff.rfl (fun hc => ?_) (fun hc => ?_)
    · replace hf := Eq.mp (if_pos hc) hf
      refine p_sub (ls' := []) [] rfl ?_
      exact t_X11_page_35 h0   _ hf
    · replace hf := Eq.mp (if_neg hc) hf
      refine p_iload_n dX11_page_25 rfl 3 rfl ?_
      refine p_i2l dX11_page_26 ?_
      refine p_lconst (z := 0) dX11_page_27 rfl ?_
      refine p_lconst (z := 1) dX11_page_28 rfl ?_
      refine p_callSi dX11_page_29 M_X11_in (Or.inr rfl) [vl x3, vl 0, vl 1] (t_X11_in _ _ _ _ _ hf) ok_X11_in rfl tb_1079 tb_1080 rfl (Nat.le_of_ble_eq_true rfl) ⟨rfl, rfl⟩ ⟨by decide, by decide⟩ ⟨by decide, by decide⟩ (fun r7 h8 hf => ?_)
      refine p_if_ne (tgt := 37) (q := r7 ≠ 0) dX11_page_32 (by decide) Iff.rfl (fun hc => ?_) (fun hc => ?_)
      · replace hf := Eq.mp (if_pos hc) hf
        refine p_iload_n dX11_page_37 rfl 3 rfl ?_
        refine p_if_ne (tgt := 50) (q := x3 ≠ 0) dX11_page_38 (by decide) Iff.rfl (fun hc => ?_) (fun hc => ?_)
        · replace hf := Eq.mp (if_pos hc) hf
          refine p_aload_n dX11_page_50 rfl 0 rfl ?_
          refine p_iload_n dX11_page_51 rfl 1 rfl ?_
          refine p_iload_n dX11_page_52 rfl 2 rfl ?_
          refine p_aload_n dX11_page_53 rfl 0 rfl ?_
          refine p_lay (c := 11) (tq := 100) (n := 18) dX11_page_54 22 14 tb_915 (by decide) (by decide) h0 (by decide) (by decide) (fun _ => rfl) (vr 100 (a0 + 14) 18) rfl ?_
          refine p_iconst dX11_page_57 (by decide) ?_
          refine p_iload_n dX11_page_58 rfl 1 rfl ?_
          refine p_imul dX11_page_59 ?_
          refine p_iload_n dX11_page_60 rfl 2 rfl ?_
          refine p_iadd dX11_page_61 ?_
          obtain ⟨c9, hf⟩ := hf
          refine p_iald dX11_page_62 (by omega) c9 ?_
          refine p_i2l dX11_page_63 ?_
          refine p_aload_n dX11_page_64 rfl 0 rfl ?_
          refine p_lay (c := 11) (tq := 100) (n := 18) dX11_page_65 23 15 tb_916 (by decide) (by decide) h0 (by decide) (by decide) (fun _ => rfl) (vr 100 (a0 + 15) 18) rfl ?_
          refine p_iconst dX11_page_68 (by decide) ?_
          refine p_iload_n dX11_page_69 rfl 1 rfl ?_
          refine p_imul dX11_page_70 ?_
          refine p_iload_n dX11_page_71 rfl 2 rfl ?_
          refine p_iadd dX11_page_72 ?_
          refine p_iald dX11_page_73 (by omega) c9 ?_
          refine p_i2l dX11_page_74 ?_
          refine p_callVl dX11_page_75 M_X11_tall rfl [vi x1, vi x2, vl (h8 (a0 + 14) (w32 ((w32 (3 * x1)) + x2))), vl (h8 (a0 + 15) (w32 ((w32 (3 * x1)) + x2)))] (t_X11_tall _ _ _ _ _ _ _ h0 hf) ok_X11_tall rfl (c := 11) (by decide) h0 rfl tb_1256 ⟨tb_1258, ts_94⟩ rfl (Nat.le_of_ble_eq_true rfl) ⟨rfl, rfl⟩ ⟨by decide, by decide⟩ ⟨by decide, by decide⟩ (fun r10 h11 hf => ?_)
          refine p_l2i dX11_page_78 ?_
          refine p_sub (ls' := []) [] rfl ?_
          exact t_X11_page_79 h0  _ _ hf
        · replace hf := Eq.mp (if_neg hc) hf
          refine p_aload_n dX11_page_41 rfl 0 rfl ?_
          refine p_iload_n dX11_page_42 rfl 1 rfl ?_
          refine p_iload_n dX11_page_43 rfl 2 rfl ?_
          refine p_callVi dX11_page_44 M_X11_mid (Or.inl rfl) [vi x1, vi x2] (t_X11_mid _ _ _ _ _ h0 hf) ok_X11_mid rfl (c := 11) (by decide) h0 rfl tb_1215 ⟨tb_1217, ts_88⟩ rfl (Nat.le_of_ble_eq_true rfl) ⟨rfl, rfl⟩ ⟨by decide, by decide⟩ ⟨by decide, by decide⟩ (fun r12 h13 hf => ?_)
          refine p_goto (tgt := 79) dX11_page_47 (by decide) ?_
          refine p_sub (ls' := []) [] rfl ?_
          exact t_X11_page_79 h0  _ _ hf
      · replace hf := Eq.mp (if_neg hc) hf
        refine p_sub (ls' := []) [] rfl ?_
        exact t_X11_page_35 h0   _ hf
theorem ok_X11_page : mOK M_X11_page 3 := ⟨tb_1255, tb_9, by decide +kernel⟩
abbrev M_X11_list : MD := (yX11_list, cX11_list, 3, some .int)
abbrev rm_X11_list : Room := { frames := 1, cells := 0, slots := 0, locals := 25 }
def w_X11_list_20 (K : Int → Hh → Prop) (a0 : Int) (h : Hh) : Prop := K (-1) h
set_option maxRecDepth 100000 in
set_option maxHeartbeats 4000000 in
theorem t_X11_list_20 {G : Gx} {n0 : Int} {K : Int → Hh → Prop} {a0 : Int} (h0 : 0 ≤ a0)  (h : Hh) (hf : w_X11_list_20 K  a0  h) : PW G M_X11_list rm_X11_list 0 0 [] n0 K 20 [] [] [] 0 0 h := by
  unfold w_X11_list_20 at hf
  refine p_iconst dX11_list_20 (by decide) ?_
  exact p_iret dX11_list_21 rfl (by decide) (by decide) (fun _ q => absurd q List.not_mem_nil) hf
def w_X11_list_24 (K : Int → Hh → Prop) (X42 : Hh → Prop) (X50 : Int → Hh → Prop) (a0 : Int) : Nat → Int → Int → Hh → Prop
  | 0, _, _, _ => False
  | n + 1, v1, v2, h => if v2 ≥ h a0 42 then (X50 v1 h) else (((0 : Int) ≤ v2 ∧ v2 < 4) ∧ (if h (a0 + 30) v2 ≠ v1 then (vb (w32 (v2 + 1)) fun z4 => w_X11_list_24 K X42 X50 a0 n v1 z4 h) else (X42  h)))
set_option maxRecDepth 100000 in
set_option maxHeartbeats 4000000 in
theorem t_X11_list_24 {G : Gx} {n0 : Int} {K : Int → Hh → Prop} {X42 : Hh → Prop} {X50 : Int → Hh → Prop} {a0 : Int} (h0 : 0 ≤ a0) (hX42 : ∀ (h : Hh), X42  h → PW G M_X11_list rm_X11_list 0 0 [] n0 K 42 [] [] [] 0 0 h) (hX50 : ∀ (v1 : Int) (h : Hh), X50 v1 h → PW G M_X11_list rm_X11_list 0 0 [] n0 K 50 [(0, vr 11 a0 0), (1, vi v1)] [] [] 0 0 h) : ∀ (n : Nat) (v1 v2 : Int) (h : Hh), w_X11_list_24 K X42 X50 a0 n v1 v2 h → PW G M_X11_list rm_X11_list 0 0 [] n0 K 24 [(0, vr 11 a0 0), (1, vi v1), (2, vi v2)] [] [] 0 0 h := by
  intro n
  induction n with
  | zero =>
    intro v1 v2 h hf
    rw [w_X11_list_24] at hf
    exact hf.elim
  | succ n ih =>
    intro v1 v2 h hf
    rw [w_X11_list_24] at hf
    refine p_iload_n dX11_list_24 rfl 2 rfl ?_
    refine p_aload_n dX11_list_25 rfl 0 rfl ?_
    refine p_get (c := 11) (vi (h a0 42)) dX11_list_26 42 tb_935 (by decide) (by decide) (Or.inl rfl) h0 rfl rfl ?_
    refine p_icmp_ge (tgt := 50) (q := v2 ≥ h a0 42) dX11_list_29 (by decide) Iff.rfl (fun hc => ?_) (fun hc => ?_)
    · replace hf := Eq.mp (if_pos hc) hf
      refine p_sub (ls' := [(0, vr 11 a0 0), (1, vi v1)]) [0, 1] rfl ?_
      exact hX50 _ _ hf
    · replace hf := Eq.mp (if_neg hc) hf
      refine p_aload_n dX11_list_32 rfl 0 rfl ?_
      refine p_lay (c := 11) (tq := 100) (n := 4) dX11_list_33 43 30 tb_936 (by decide) (by decide) h0 (by decide) (by decide) (fun _ => rfl) (vr 100 (a0 + 30) 4) rfl ?_
      refine p_iload_n dX11_list_36 rfl 2 rfl ?_
      obtain ⟨c3, hf⟩ := hf
      refine p_iald dX11_list_37 (by omega) c3 ?_
      refine p_iload_n dX11_list_38 rfl 1 rfl ?_
      refine p_icmp_ne (tgt := 44) (q := h (a0 + 30) v2 ≠ v1) dX11_list_39 (by decide) Iff.rfl (fun hc => ?_) (fun hc => ?_)
      · replace hf := Eq.mp (if_pos hc) hf
        refine p_iinc (ls' := [(2, vi (w32 (v2 + 1))), (0, vr 11 a0 0), (1, vi v1)]) dX11_list_44 2 rfl (by decide) rfl ?_
        replace hf := vb_e hf
        generalize w32 (v2 + 1) = z4 at hf ⊢
        refine p_goto (tgt := 24) dX11_list_47 (by decide) ?_
        refine p_sub (ls' := [(0, vr 11 a0 0), (1, vi v1), (2, vi z4)]) [1, 2, 0] rfl ?_
        exact ih _ _ _ hf
      · replace hf := Eq.mp (if_neg hc) hf
        refine p_sub (ls' := []) [] rfl ?_
        exact hX42  _ hf
def w_X11_list (a0 x1 : Int) (h : Hh) (K : Int → Hh → Prop) : Prop := w_X11_in x1 1 50 h (fun r1 h2 => if r1 = 0 then (w_X11_list_20 K  a0  h2) else (if h2 a0 42 ≠ 4 then (w_X11_list_24 K (fun h5 => K (-1) h5) (fun u7 h6 => ((0 : Int) ≤ h6 a0 42 ∧ h6 a0 42 < 4) ∧ (hb (up h6 (a0 + 30) (h6 a0 42) u7) fun h9 => hb (up h9 a0 42 (w32 ((h9 a0 42) + 1))) fun h10 => K (h10 a0 42) h10)) a0 NF x1 0 h2) else (w_X11_list_20 K  a0  h2)))
set_option maxRecDepth 100000 in
set_option maxHeartbeats 4000000 in
theorem t_X11_list {G : Gx} (a0 x1 : Int) (h : Hh) (K : Int → Hh → Prop) (h0 : 0 ≤ a0) (hf : w_X11_list a0 x1 h K) : CT G M_X11_list rm_X11_list 0 0 [] [vr 11 a0 0, vi x1] h K := by
  unfold w_X11_list at hf
  refine CT.of (ls0 := [(0, vr 11 a0 0), (1, vi x1)]) (plainFor_of_name (by decide +kernel)) (by decide +kernel) (Nat.le_of_ble_eq_true rfl) rfl rfl ?_
  refine p_iload_n dX11_list_0 rfl 1 rfl ?_
  refine p_i2l dX11_list_1 ?_
  refine p_lconst (z := 1) dX11_list_2 rfl ?_
  refine p_ldc2 (z := 50) dX11_list_3 tb_1160 (by decide) ?_
  refine p_callSi dX11_list_6 M_X11_in (Or.inr rfl) [vl x1, vl 1, vl 50] (t_X11_in _ _ _ _ _ hf) ok_X11_in rfl tb_1079 tb_1080 rfl (Nat.le_of_ble_eq_true rfl) ⟨rfl, rfl⟩ ⟨by decide, by decide⟩ ⟨by decide, by decide⟩ (fun r1 h2 hf => ?_)
  refine p_if_eq (tgt := 20) (q := r1 = 0) dX11_list_9 (by decide) Iff.rfl (fun hc => ?_) (fun hc => ?_)
  · replace hf := Eq.mp (if_pos hc) hf
    refine p_sub (ls' := []) [] rfl ?_
    exact t_X11_list_20 h0   _ hf
  · replace hf := Eq.mp (if_neg hc) hf
    refine p_aload_n dX11_list_12 rfl 0 rfl ?_
    refine p_get (c := 11) (vi (h2 a0 42)) dX11_list_13 42 tb_935 (by decide) (by decide) (Or.inl rfl) h0 rfl rfl ?_
    refine p_iconst dX11_list_16 (by decide) ?_
    refine p_icmp_ne (tgt := 22) (q := h2 a0 42 ≠ 4) dX11_list_17 (by decide) Iff.rfl (fun hc => ?_) (fun hc => ?_)
    · replace hf := Eq.mp (if_pos hc) hf
      refine p_iconst dX11_list_22 (by decide) ?_
      refine p_istore_n (ls' := [(2, vi 0), (0, vr 11 a0 0), (1, vi x1)]) dX11_list_23 rfl (by decide) rfl ?_
      refine p_sub (ls' := [(0, vr 11 a0 0), (1, vi x1), (2, vi 0)]) [1, 2, 0] rfl ?_
      refine t_X11_list_24 h0 ?_ ?_ NF _ _ _ hf
      · intro h5 hf
        refine p_iconst dX11_list_42 (by decide) ?_
        exact p_iret dX11_list_43 rfl (by decide) (by decide) (fun _ q => absurd q List.not_mem_nil) hf
      · intro u7 h6 hf
        refine p_aload_n dX11_list_50 rfl 0 rfl ?_
        refine p_lay (c := 11) (tq := 100) (n := 4) dX11_list_51 43 30 tb_936 (by decide) (by decide) h0 (by decide) (by decide) (fun _ => rfl) (vr 100 (a0 + 30) 4) rfl ?_
        refine p_aload_n dX11_list_54 rfl 0 rfl ?_
        refine p_get (c := 11) (vi (h6 a0 42)) dX11_list_55 42 tb_935 (by decide) (by decide) (Or.inl rfl) h0 rfl rfl ?_
        refine p_iload_n dX11_list_58 rfl 1 rfl ?_
        obtain ⟨c8, hf⟩ := hf
        refine p_iast dX11_list_59 (by omega) c8 ?_
        replace hf := hb_e hf
        generalize up h6 (a0 + 30) (h6 a0 42) u7 = h9 at hf ⊢
        refine p_aload_n dX11_list_60 rfl 0 rfl ?_
        refine p_dup dX11_list_61 (fun _ q => by cases q) ?_
        refine p_get (c := 11) (vi (h9 a0 42)) dX11_list_62 42 tb_935 (by decide) (by decide) (Or.inl rfl) h0 rfl rfl ?_
        refine p_iconst dX11_list_65 (by decide) ?_
        refine p_iadd dX11_list_66 ?_
        refine p_puti (c := 11) dX11_list_67 42 tb_935 (by decide) (by decide) (Or.inl rfl) h0 rfl rfl (fun _ => by decide) (up h9 a0 42 (w32 ((h9 a0 42) + 1))) rfl ?_
        replace hf := hb_e hf
        generalize up h9 a0 42 (w32 ((h9 a0 42) + 1)) = h10 at hf ⊢
        refine p_aload_n dX11_list_70 rfl 0 rfl ?_
        refine p_get (c := 11) (vi (h10 a0 42)) dX11_list_71 42 tb_935 (by decide) (by decide) (Or.inl rfl) h0 rfl rfl ?_
        exact p_iret dX11_list_74 rfl (by decide) (by decide) (fun _ q => absurd q List.not_mem_nil) hf
    · replace hf := Eq.mp (if_neg hc) hf
      refine p_sub (ls' := []) [] rfl ?_
      exact t_X11_list_20 h0   _ hf
theorem ok_X11_list : mOK M_X11_list 1 := ⟨tb_1269, tb_9, by decide +kernel⟩
abbrev M_X11_clear : MD := (yX11_clear, cX11_clear, 2, some .int)
abbrev rm_X11_clear : Room := { frames := 0, cells := 0, slots := 0, locals := 0 }
def w_X11_clear (a0 : Int) (h : Hh) (K : Int → Hh → Prop) : Prop := vb (h a0 42) fun z1 => hb (up h a0 42 0) fun h2 => K z1 h2
set_option maxRecDepth 100000 in
set_option maxHeartbeats 4000000 in
theorem t_X11_clear {G : Gx} (a0 : Int) (h : Hh) (K : Int → Hh → Prop) (h0 : 0 ≤ a0) (hf : w_X11_clear a0 h K) : CT G M_X11_clear rm_X11_clear 0 0 [] [vr 11 a0 0] h K := by
  unfold w_X11_clear at hf
  refine CT.of (ls0 := [(0, vr 11 a0 0)]) (plainFor_of_name (by decide +kernel)) (by decide +kernel) (Nat.le_of_ble_eq_true rfl) rfl rfl ?_
  refine p_aload_n dX11_clear_0 rfl 0 rfl ?_
  refine p_get (c := 11) (vi (h a0 42)) dX11_clear_1 42 tb_935 (by decide) (by decide) (Or.inl rfl) h0 rfl rfl ?_
  refine p_istore_n (ls' := [(1, vi (h a0 42)), (0, vr 11 a0 0)]) dX11_clear_4 rfl (by decide) rfl ?_
  replace hf := vb_e hf
  generalize (h a0 42) = z1 at hf ⊢
  refine p_aload_n dX11_clear_5 rfl 1 rfl ?_
  refine p_iconst dX11_clear_6 (by decide) ?_
  refine p_puti (c := 11) dX11_clear_7 42 tb_935 (by decide) (by decide) (Or.inl rfl) h0 rfl rfl (fun _ => by decide) (up h a0 42 0) rfl ?_
  replace hf := hb_e hf
  generalize up h a0 42 0 = h2 at hf ⊢
  refine p_iload_n dX11_clear_10 rfl 0 rfl ?_
  exact p_iret dX11_clear_11 rfl (by decide) (by decide) (fun _ q => absurd q List.not_mem_nil) hf
theorem ok_X11_clear : mOK M_X11_clear 0 := ⟨tb_1273, tb_9, by decide +kernel⟩
abbrev M_X11_finest : MD := (yX11_finest, cX11_finest, 18, some .int)
abbrev rm_X11_finest : Room := { frames := 3, cells := 0, slots := 0, locals := 86 }
def w_X11_finest_46 (K : Int → Hh → Prop) (a0 : Int) (h : Hh) : Prop := K (-1) h
set_option maxRecDepth 100000 in
set_option maxHeartbeats 4000000 in
theorem t_X11_finest_46 {G : Gx} {n0 : Int} {K : Int → Hh → Prop} {a0 : Int} (h0 : 0 ≤ a0)  (h : Hh) (hf : w_X11_finest_46 K  a0  h) : PW G M_X11_finest rm_X11_finest 0 0 [] n0 K 46 [] [] [] 0 0 h := by
  unfold w_X11_finest_46 at hf
  refine p_iconst dX11_finest_46 (by decide) ?_
  exact p_iret dX11_finest_47 rfl (by decide) (by decide) (fun _ q => absurd q List.not_mem_nil) hf
def w_X11_finest_219 (K : Int → Hh → Prop) (B : Int → Int → Int → Int → Int → Int → Int → Int → Int → Int → Hh → Prop) (X225 : Int → Int → Int → Int → Int → Int → Int → Int → Int → Hh → Prop) (a0 : Int) (v1 v2 v3 v4 v5 v6 v7 v9 v11 v12 : Int) (h : Hh) : Prop := vb (w32 (v12 + 1)) fun z20 => B v1 v2 v3 v4 v5 v6 v7 v9 v11 z20 h
set_option maxRecDepth 100000 in
set_option maxHeartbeats 4000000 in
theorem t_X11_finest_219 {G : Gx} {n0 : Int} {K : Int → Hh → Prop} {B : Int → Int → Int → Int → Int → Int → Int → Int → Int → Int → Hh → Prop} {X225 : Int → Int → Int → Int → Int → Int → Int → Int → Int → Hh → Prop} {a0 : Int} (h0 : 0 ≤ a0) (hB : ∀ (v1 v2 v3 v4 v5 v6 v7 v9 v11 v12 : Int) (h : Hh), B v1 v2 v3 v4 v5 v6 v7 v9 v11 v12 h → PW G M_X11_finest rm_X11_finest 0 0 [] n0 K 91 [(0, vr 11 a0 0), (1, vi v1), (2, vi v2), (3, vi v3), (4, vi v4), (5, vi v5), (6, vi v6), (7, vl v7), (9, vl v9), (11, vi v11), (12, vi v12)] [] [] 0 0 h) (hX225 : ∀ (v1 v2 v3 v4 v5 v6 v7 v9 v11 : Int) (h : Hh), X225 v1 v2 v3 v4 v5 v6 v7 v9 v11 h → PW G M_X11_finest rm_X11_finest 0 0 [] n0 K 225 [(0, vr 11 a0 0), (1, vi v1), (2, vi v2), (3, vi v3), (4, vi v4), (5, vi v5), (6, vi v6), (7, vl v7), (9, vl v9), (11, vi v11)] [] [] 0 0 h)  (v1 v2 v3 v4 v5 v6 v7 v9 v11 v12 : Int) (h : Hh) (hf : w_X11_finest_219 K B X225 a0 v1 v2 v3 v4 v5 v6 v7 v9 v11 v12 h) : PW G M_X11_finest rm_X11_finest 0 0 [] n0 K 219 [(0, vr 11 a0 0), (1, vi v1), (2, vi v2), (3, vi v3), (4, vi v4), (5, vi v5), (6, vi v6), (7, vl v7), (9, vl v9), (11, vi v11), (12, vi v12)] [] [] 0 0 h := by
  unfold w_X11_finest_219 at hf
  refine p_iinc (ls' := [(12, vi (w32 (v12 + 1))), (0, vr 11 a0 0), (1, vi v1), (2, vi v2), (3, vi v3), (4, vi v4), (5, vi v5), (6, vi v6), (7, vl v7), (9, vl v9), (11, vi v11)]) dX11_finest_219 10 rfl (by decide) rfl ?_
  replace hf := vb_e hf
  generalize w32 (v12 + 1) = z20 at hf ⊢
  refine p_goto (tgt := 91) dX11_finest_222 (by decide) ?_
  refine p_sub (ls' := [(0, vr 11 a0 0), (1, vi v1), (2, vi v2), (3, vi v3), (4, vi v4), (5, vi v5), (6, vi v6), (7, vl v7), (9, vl v9), (11, vi v11), (12, vi z20)]) [1, 2, 3, 4, 5, 6, 7, 8, 9, 10, 0] rfl ?_
  exact hB _ _ _ _ _ _ _ _ _ _ _ hf
def w_X11_finest_183 (K : Int → Hh → Prop) (B : Int → Int → Int → Int → Int → Int → Int → Int → Int → Int → Hh → Prop) (X225 : Int → Int → Int → Int → Int → Int → Int → Int → Int → Hh → Prop) (a0 : Int) (v1 v2 v3 v4 v5 v6 v7 v9 v11 v12 v13 v15 s0 : Int) (h : Hh) : Prop := if s0 ≠ 0 then (vb (w32 (w64 ((w64 (100 * v13)) + v15))) fun z17 => vb (w64 (v13 * v15)) fun z18 => vb (w64 (v13 + v15)) fun z19 => w_X11_finest_219 K B X225 a0 v1 v2 v3 z17 v5 v6 z18 z19 v11 v12 h) else (w_X11_finest_219 K B X225 a0 v1 v2 v3 v4 v5 v6 v7 v9 v11 v12 h)
set_option maxRecDepth 100000 in
set_option maxHeartbeats 4000000 in
theorem t_X11_finest_183 {G : Gx} {n0 : Int} {K : Int → Hh → Prop} {B : Int → Int → Int → Int → Int → Int → Int → Int → Int → Int → Hh → Prop} {X225 : Int → Int → Int → Int → Int → Int → Int → Int → Int → Hh → Prop} {a0 : Int} (h0 : 0 ≤ a0) (hB : ∀ (v1 v2 v3 v4 v5 v6 v7 v9 v11 v12 : Int) (h : Hh), B v1 v2 v3 v4 v5 v6 v7 v9 v11 v12 h → PW G M_X11_finest rm_X11_finest 0 0 [] n0 K 91 [(0, vr 11 a0 0), (1, vi v1), (2, vi v2), (3, vi v3), (4, vi v4), (5, vi v5), (6, vi v6), (7, vl v7), (9, vl v9), (11, vi v11), (12, vi v12)] [] [] 0 0 h) (hX225 : ∀ (v1 v2 v3 v4 v5 v6 v7 v9 v11 : Int) (h : Hh), X225 v1 v2 v3 v4 v5 v6 v7 v9 v11 h → PW G M_X11_finest rm_X11_finest 0 0 [] n0 K 225 [(0, vr 11 a0 0), (1, vi v1), (2, vi v2), (3, vi v3), (4, vi v4), (5, vi v5), (6, vi v6), (7, vl v7), (9, vl v9), (11, vi v11)] [] [] 0 0 h)  (v1 v2 v3 v4 v5 v6 v7 v9 v11 v12 v13 v15 s0 : Int) (h : Hh) (hf : w_X11_finest_183 K B X225 a0 v1 v2 v3 v4 v5 v6 v7 v9 v11 v12 v13 v15 s0 h) : PW G M_X11_finest rm_X11_finest 0 0 [] n0 K 183 [(0, vr 11 a0 0), (1, vi v1), (2, vi v2), (3, vi v3), (4, vi v4), (5, vi v5), (6, vi v6), (7, vl v7), (9, vl v9), (11, vi v11), (12, vi v12), (13, vl v13), (15, vl v15)] [vi s0] [] 0 0 h := by
  unfold w_X11_finest_183 at hf
  refine p_istore (ls' := [(17, vi s0), (0, vr 11 a0 0), (1, vi v1), (2, vi v2), (3, vi v3), (4, vi v4), (5, vi v5), (6, vi v6), (7, vl v7), (9, vl v9), (11, vi v11), (12, vi v12), (13, vl v13), (15, vl v15)]) dX11_finest_183 (by decide) rfl ?_
  refine p_iload dX11_finest_185 0 rfl ?_
  refine p_if_ne (tgt := 193) (q := s0 ≠ 0) dX11_finest_187 (by decide) Iff.rfl (fun hc => ?_) (fun hc => ?_)
  · replace hf := Eq.mp (if_pos hc) hf
    refine p_ldc2 (z := 100) dX11_finest_193 tb_1278 (by decide) ?_
    refine p_lload dX11_finest_196 12 rfl ?_
    refine p_lmul dX11_finest_198 ?_
    refine p_lload dX11_finest_199 13 rfl ?_
    refine p_ladd dX11_finest_201 ?_
    refine p_l2i dX11_finest_202 ?_
    refine p_istore (ls' := [(4, vi (w32 (w64 ((w64 (100 * v13)) + v15)))), (17, vi s0), (0, vr 11 a0 0), (1, vi v1), (2, vi v2), (3, vi v3), (5, vi v5), (6, vi v6), (7, vl v7), (9, vl v9), (11, vi v11), (12, vi v12), (13, vl v13), (15, vl v15)]) dX11_finest_203 (by decide) rfl ?_
    replace hf := vb_e hf
    generalize (w32 (w64 ((w64 (100 * v13)) + v15))) = z17 at hf ⊢
    refine p_lload dX11_finest_205 12 rfl ?_
    refine p_lload dX11_finest_207 13 rfl ?_
    refine p_lmul dX11_finest_209 ?_
    refine p_lstore (ls' := [(7, vl (w64 (v13 * v15))), (4, vi z17), (17, vi s0), (0, vr 11 a0 0), (1, vi v1), (2, vi v2), (3, vi v3), (5, vi v5), (6, vi v6), (9, vl v9), (11, vi v11), (12, vi v12), (13, vl v13), (15, vl v15)]) dX11_finest_210 (by decide) rfl ?_
    replace hf := vb_e hf
    generalize (w64 (v13 * v15)) = z18 at hf ⊢
    refine p_lload dX11_finest_212 12 rfl ?_
    refine p_lload dX11_finest_214 13 rfl ?_
    refine p_ladd dX11_finest_216 ?_
    refine p_lstore (ls' := [(9, vl (w64 (v13 + v15))), (7, vl z18), (4, vi z17), (17, vi s0), (0, vr 11 a0 0), (1, vi v1), (2, vi v2), (3, vi v3), (5, vi v5), (6, vi v6), (11, vi v11), (12, vi v12), (13, vl v13), (15, vl v15)]) dX11_finest_217 (by decide) rfl ?_
    replace hf := vb_e hf
    generalize (w64 (v13 + v15)) = z19 at hf ⊢
    refine p_sub (ls' := [(0, vr 11 a0 0), (1, vi v1), (2, vi v2), (3, vi v3), (4, vi z17), (5, vi v5), (6, vi v6), (7, vl z18), (9, vl z19), (11, vi v11), (12, vi v12)]) [4, 5, 6, 7, 2, 8, 9, 1, 0, 10, 11] rfl ?_
    exact t_X11_finest_219 h0 hB hX225 _ _ _ _ _ _ _ _ _ _ _ hf
  · replace hf := Eq.mp (if_neg hc) hf
    refine p_goto (tgt := 219) dX11_finest_190 (by decide) ?_
    refine p_sub (ls' := [(0, vr 11 a0 0), (1, vi v1), (2, vi v2), (3, vi v3), (4, vi v4), (5, vi v5), (6, vi v6), (7, vl v7), (9, vl v9), (11, vi v11), (12, vi v12)]) [1, 2, 3, 4, 5, 6, 7, 8, 9, 10, 11] rfl ?_
    exact t_X11_finest_219 h0 hB hX225 _ _ _ _ _ _ _ _ _ _ _ hf
def w_X11_finest_178 (K : Int → Hh → Prop) (B : Int → Int → Int → Int → Int → Int → Int → Int → Int → Int → Hh → Prop) (X225 : Int → Int → Int → Int → Int → Int → Int → Int → Int → Hh → Prop) (a0 : Int) (v1 v2 v3 v4 v5 v6 v7 v9 v11 v12 v13 v15 : Int) (h : Hh) : Prop := w_X11_finest_183 K B X225 a0 v1 v2 v3 v4 v5 v6 v7 v9 v11 v12 v13 v15 1 h
set_option maxRecDepth 100000 in
set_option maxHeartbeats 4000000 in
theorem t_X11_finest_178 {G : Gx} {n0 : Int} {K : Int → Hh → Prop} {B : Int → Int → Int → Int → Int → Int → Int → Int → Int → Int → Hh → Prop} {X225 : Int → Int → Int → Int → Int → Int → Int → Int → Int → Hh → Prop} {a0 : Int} (h0 : 0 ≤ a0) (hB : ∀ (v1 v2 v3 v4 v5 v6 v7 v9 v11 v12 : Int) (h : Hh), B v1 v2 v3 v4 v5 v6 v7 v9 v11 v12 h → PW G M_X11_finest rm_X11_finest 0 0 [] n0 K 91 [(0, vr 11 a0 0), (1, vi v1), (2, vi v2), (3, vi v3), (4, vi v4), (5, vi v5), (6, vi v6), (7, vl v7), (9, vl v9), (11, vi v11), (12, vi v12)] [] [] 0 0 h) (hX225 : ∀ (v1 v2 v3 v4 v5 v6 v7 v9 v11 : Int) (h : Hh), X225 v1 v2 v3 v4 v5 v6 v7 v9 v11 h → PW G M_X11_finest rm_X11_finest 0 0 [] n0 K 225 [(0, vr 11 a0 0), (1, vi v1), (2, vi v2), (3, vi v3), (4, vi v4), (5, vi v5), (6, vi v6), (7, vl v7), (9, vl v9), (11, vi v11)] [] [] 0 0 h)  (v1 v2 v3 v4 v5 v6 v7 v9 v11 v12 v13 v15 : Int) (h : Hh) (hf : w_X11_finest_178 K B X225 a0 v1 v2 v3 v4 v5 v6 v7 v9 v11 v12 v13 v15 h) : PW G M_X11_finest rm_X11_finest 0 0 [] n0 K 178 [(0, vr 11 a0 0), (1, vi v1), (2, vi v2), (3, vi v3), (4, vi v4), (5, vi v5), (6, vi v6), (7, vl v7), (9, vl v9), (11, vi v11), (12, vi v12), (13, vl v13), (15, vl v15)] [] [] 0 0 h := by
  unfold w_X11_finest_178 at hf
  refine p_iconst dX11_finest_178 (by decide) ?_
  refine p_goto (tgt := 183) dX11_finest_179 (by decide) ?_
  exact t_X11_finest_183 h0 hB hX225 _ _ _ _ _ _ _ _ _ _ _ _ _ _ hf
def w_X11_finest_182 (K : Int → Hh → Prop) (B : Int → Int → Int → Int → Int → Int → Int → Int → Int → Int → Hh → Prop) (X225 : Int → Int → Int → Int → Int → Int → Int → Int → Int → Hh → Prop) (a0 : Int) (v1 v2 v3 v4 v5 v6 v7 v9 v11 v12 v13 v15 : Int) (h : Hh) : Prop := w_X11_finest_183 K B X225 a0 v1 v2 v3 v4 v5 v6 v7 v9 v11 v12 v13 v15 0 h
set_option maxRecDepth 100000 in
set_option maxHeartbeats 4000000 in
theorem t_X11_finest_182 {G : Gx} {n0 : Int} {K : Int → Hh → Prop} {B : Int → Int → Int → Int → Int → Int → Int → Int → Int → Int → Hh → Prop} {X225 : Int → Int → Int → Int → Int → Int → Int → Int → Int → Hh → Prop} {a0 : Int} (h0 : 0 ≤ a0) (hB : ∀ (v1 v2 v3 v4 v5 v6 v7 v9 v11 v12 : Int) (h : Hh), B v1 v2 v3 v4 v5 v6 v7 v9 v11 v12 h → PW G M_X11_finest rm_X11_finest 0 0 [] n0 K 91 [(0, vr 11 a0 0), (1, vi v1), (2, vi v2), (3, vi v3), (4, vi v4), (5, vi v5), (6, vi v6), (7, vl v7), (9, vl v9), (11, vi v11), (12, vi v12)] [] [] 0 0 h) (hX225 : ∀ (v1 v2 v3 v4 v5 v6 v7 v9 v11 : Int) (h : Hh), X225 v1 v2 v3 v4 v5 v6 v7 v9 v11 h → PW G M_X11_finest rm_X11_finest 0 0 [] n0 K 225 [(0, vr 11 a0 0), (1, vi v1), (2, vi v2), (3, vi v3), (4, vi v4), (5, vi v5), (6, vi v6), (7, vl v7), (9, vl v9), (11, vi v11)] [] [] 0 0 h)  (v1 v2 v3 v4 v5 v6 v7 v9 v11 v12 v13 v15 : Int) (h : Hh) (hf : w_X11_finest_182 K B X225 a0 v1 v2 v3 v4 v5 v6 v7 v9 v11 v12 v13 v15 h) : PW G M_X11_finest rm_X11_finest 0 0 [] n0 K 182 [(0, vr 11 a0 0), (1, vi v1), (2, vi v2), (3, vi v3), (4, vi v4), (5, vi v5), (6, vi v6), (7, vl v7), (9, vl v9), (11, vi v11), (12, vi v12), (13, vl v13), (15, vl v15)] [] [] 0 0 h := by
  unfold w_X11_finest_182 at hf
  refine p_iconst dX11_finest_182 (by decide) ?_
  exact t_X11_finest_183 h0 hB hX225 _ _ _ _ _ _ _ _ _ _ _ _ _ _ hf
def w_X11_finest_91 (K : Int → Hh → Prop) (X225 : Int → Int → Int → Int → Int → Int → Int → Int → Int → Hh → Prop) (a0 : Int) : Nat → Int → Int → Int → Int → Int → Int → Int → Int → Int → Int → Hh → Prop
  | 0, _, _, _, _, _, _, _, _, _, _, _ => False
  | n + 1, v1, v2, v3, v4, v5, v6, v7, v9, v11, v12, h => if v12 ≥ h a0 42 then (X225 v1 v2 v3 v4 v5 v6 v7 v9 v11 h) else (((0 : Int) ≤ v11 ∧ v11 < 4) ∧ (vb (h (a0 + 30) v11) fun z12 => ((0 : Int) ≤ v12 ∧ v12 < 4) ∧ (vb (h (a0 + 30) v12) fun z14 => w_X11_tall a0 v1 v6 z12 z14 h (fun r15 h16 => if r15 ≤ v2 then (if v4 = (-1) then (w_X11_finest_178 K (w_X11_finest_91 K X225 a0 n) X225 a0 v1 v2 v3 v4 v5 v6 v7 v9 v11 v12 z12 z14 h16) else (w_X11_pagesOf a0 v1 h16 (fun r21 h22 => if v6 ≠ w32 (r21 - 1) then (w_X11_finest_182 K (w_X11_finest_91 K X225 a0 n) X225 a0 v1 v2 v3 v4 v5 v6 v7 v9 v11 v12 z12 z14 h22) else (if w64 ((w64 (z12 * z14)) * v9) ≤ w64 (v7 * (w64 (z12 + z14))) then (w_X11_finest_182 K (w_X11_finest_91 K X225 a0 n) X225 a0 v1 v2 v3 v4 v5 v6 v7 v9 v11 v12 z12 z14 h22) else (w_X11_finest_178 K (w_X11_finest_91 K X225 a0 n) X225 a0 v1 v2 v3 v4 v5 v6 v7 v9 v11 v12 z12 z14 h22))))) else (w_X11_finest_219 K (w_X11_finest_91 K X225 a0 n) X225 a0 v1 v2 v3 v4 v5 v6 v7 v9 v11 v12 h16)))))
set_option maxRecDepth 100000 in
set_option maxHeartbeats 4000000 in
theorem t_X11_finest_91 {G : Gx} {n0 : Int} {K : Int → Hh → Prop} {X225 : Int → Int → Int → Int → Int → Int → Int → Int → Int → Hh → Prop} {a0 : Int} (h0 : 0 ≤ a0) (hX225 : ∀ (v1 v2 v3 v4 v5 v6 v7 v9 v11 : Int) (h : Hh), X225 v1 v2 v3 v4 v5 v6 v7 v9 v11 h → PW G M_X11_finest rm_X11_finest 0 0 [] n0 K 225 [(0, vr 11 a0 0), (1, vi v1), (2, vi v2), (3, vi v3), (4, vi v4), (5, vi v5), (6, vi v6), (7, vl v7), (9, vl v9), (11, vi v11)] [] [] 0 0 h) : ∀ (n : Nat) (v1 v2 v3 v4 v5 v6 v7 v9 v11 v12 : Int) (h : Hh), w_X11_finest_91 K X225 a0 n v1 v2 v3 v4 v5 v6 v7 v9 v11 v12 h → PW G M_X11_finest rm_X11_finest 0 0 [] n0 K 91 [(0, vr 11 a0 0), (1, vi v1), (2, vi v2), (3, vi v3), (4, vi v4), (5, vi v5), (6, vi v6), (7, vl v7), (9, vl v9), (11, vi v11), (12, vi v12)] [] [] 0 0 h := by
  intro n
  induction n with
  | zero =>
    intro v1 v2 v3 v4 v5 v6 v7 v9 v11 v12 h hf
    rw [w_X11_finest_91] at hf
    exact hf.elim
  | succ n ih =>
    intro v1 v2 v3 v4 v5 v6 v7 v9 v11 v12 h hf
    rw [w_X11_finest_91] at hf
    refine p_iload dX11_finest_91 10 rfl ?_
    refine p_aload_n dX11_finest_93 rfl 0 rfl ?_
    refine p_get (c := 11) (vi (h a0 42)) dX11_finest_94 42 tb_935 (by decide) (by decide) (Or.inl rfl) h0 rfl rfl ?_
    refine p_icmp_ge (tgt := 225) (q := v12 ≥ h a0 42) dX11_finest_97 (by decide) Iff.rfl (fun hc => ?_) (fun hc => ?_)
    · replace hf := Eq.mp (if_pos hc) hf
      refine p_sub (ls' := [(0, vr 11 a0 0), (1, vi v1), (2, vi v2), (3, vi v3), (4, vi v4), (5, vi v5), (6, vi v6), (7, vl v7), (9, vl v9), (11, vi v11)]) [0, 1, 2, 3, 4, 5, 6, 7, 8, 9] rfl ?_
      exact hX225 _ _ _ _ _ _ _ _ _ _ hf
    · replace hf := Eq.mp (if_neg hc) hf
      refine p_aload_n dX11_finest_100 rfl 0 rfl ?_
      refine p_lay (c := 11) (tq := 100) (n := 4) dX11_finest_101 43 30 tb_936 (by decide) (by decide) h0 (by decide) (by decide) (fun _ => rfl) (vr 100 (a0 + 30) 4) rfl ?_
      refine p_iload dX11_finest_104 9 rfl ?_
      obtain ⟨c11, hf⟩ := hf
      refine p_iald dX11_finest_106 (by omega) c11 ?_
      refine p_i2l dX11_finest_107 ?_
      refine p_lstore (ls' := [(13, vl (h (a0 + 30) v11)), (0, vr 11 a0 0), (1, vi v1), (2, vi v2), (3, vi v3), (4, vi v4), (5, vi v5), (6, vi v6), (7, vl v7), (9, vl v9), (11, vi v11), (12, vi v12)]) dX11_finest_108 (by decide) rfl ?_
      replace hf := vb_e hf
      generalize (h (a0 + 30) v11) = z12 at hf ⊢
      refine p_aload_n dX11_finest_110 rfl 1 rfl ?_
      refine p_lay (c := 11) (tq := 100) (n := 4) dX11_finest_111 43 30 tb_936 (by decide) (by decide) h0 (by decide) (by decide) (fun _ => rfl) (vr 100 (a0 + 30) 4) rfl ?_
      refine p_iload dX11_finest_114 11 rfl ?_
      obtain ⟨c13, hf⟩ := hf
      refine p_iald dX11_finest_116 (by omega) c13 ?_
      refine p_i2l dX11_finest_117 ?_
      refine p_lstore (ls' := [(15, vl (h (a0 + 30) v12)), (13, vl z12), (0, vr 11 a0 0), (1, vi v1), (2, vi v2), (3, vi v3), (4, vi v4), (5, vi v5), (6, vi v6), (7, vl v7), (9, vl v9), (11, vi v11), (12, vi v12)]) dX11_finest_118 (by decide) rfl ?_
      replace hf := vb_e hf
      generalize (h (a0 + 30) v12) = z14 at hf ⊢
      refine p_aload_n dX11_finest_120 rfl 2 rfl ?_
      refine p_iload_n dX11_finest_121 rfl 3 rfl ?_
      refine p_iload dX11_finest_122 8 rfl ?_
      refine p_lload dX11_finest_124 1 rfl ?_
      refine p_lload dX11_finest_126 0 rfl ?_
      refine p_callVl dX11_finest_128 M_X11_tall rfl [vi v1, vi v6, vl z12, vl z14] (t_X11_tall _ _ _ _ _ _ _ h0 hf) ok_X11_tall rfl (c := 11) (by decide) h0 rfl tb_1256 ⟨tb_1258, ts_94⟩ rfl (Nat.le_of_ble_eq_true rfl) ⟨rfl, rfl⟩ ⟨by decide, by decide⟩ ⟨by decide, by decide⟩ (fun r15 h16 hf => ?_)
      refine p_iload_n dX11_finest_131 rfl 4 rfl ?_
      refine p_i2l dX11_finest_132 ?_
      refine p_lcmp (z := (if r15 < v2 then (-1) else if r15 = v2 then 0 else 1)) dX11_finest_133 rfl ?_
      refine p_if_le (tgt := 140) (q := r15 ≤ v2) dX11_finest_134 (by decide) (lc_le r15 v2) (fun hc => ?_) (fun hc => ?_)
      · replace hf := Eq.mp (if_pos hc) hf
        refine p_iload dX11_finest_140 6 rfl ?_
        refine p_iconst dX11_finest_142 (by decide) ?_
        refine p_icmp_eq (tgt := 178) (q := v4 = (-1)) dX11_finest_143 (by decide) Iff.rfl (fun hc => ?_) (fun hc => ?_)
        · replace hf := Eq.mp (if_pos hc) hf
          refine p_sub (ls' := [(0, vr 11 a0 0), (1, vi v1), (2, vi v2), (3, vi v3), (4, vi v4), (5, vi v5), (6, vi v6), (7, vl v7), (9, vl v9), (11, vi v11), (12, vi v12), (13, vl z12), (15, vl z14)]) [2, 3, 4, 5, 6, 7, 8, 9, 10, 11, 12, 1, 0] rfl ?_
          exact t_X11_finest_178 h0 ih hX225 _ _ _ _ _ _ _ _ _ _ _ _ _ hf
        · replace hf := Eq.mp (if_neg hc) hf
          refine p_iload dX11_finest_146 8 rfl ?_
          refine p_aload_n dX11_finest_148 rfl 2 rfl ?_
          refine p_iload_n dX11_finest_149 rfl 3 rfl ?_
          refine p_callVi dX11_finest_150 M_X11_pagesOf (Or.inl rfl) [vi v1] (t_X11_pagesOf _ _ _ _ h0 hf) ok_X11_pagesOf rfl (c := 11) (by decide) h0 rfl tb_1211 ⟨tb_1213, ts_87⟩ rfl (Nat.le_of_ble_eq_true rfl) ⟨rfl, rfl⟩ ⟨by decide, by decide⟩ ⟨by decide, by decide⟩ (fun r21 h22 hf => ?_)
          refine p_iconst dX11_finest_153 (by decide) ?_
          refine p_isub dX11_finest_154 ?_
          refine p_icmp_ne (tgt := 182) (q := v6 ≠ w32 (r21 - 1)) dX11_finest_155 (by decide) Iff.rfl (fun hc => ?_) (fun hc => ?_)
          · replace hf := Eq.mp (if_pos hc) hf
            refine p_sub (ls' := [(0, vr 11 a0 0), (1, vi v1), (2, vi v2), (3, vi v3), (4, vi v4), (5, vi v5), (6, vi v6), (7, vl v7), (9, vl v9), (11, vi v11), (12, vi v12), (13, vl z12), (15, vl z14)]) [2, 3, 4, 5, 6, 7, 8, 9, 10, 11, 12, 1, 0] rfl ?_
            exact t_X11_finest_182 h0 ih hX225 _ _ _ _ _ _ _ _ _ _ _ _ _ hf
          · replace hf := Eq.mp (if_neg hc) hf
            refine p_lload dX11_finest_158 1 rfl ?_
            refine p_lload dX11_finest_160 0 rfl ?_
            refine p_lmul dX11_finest_162 ?_
            refine p_lload dX11_finest_163 10 rfl ?_
            refine p_lmul dX11_finest_165 ?_
            refine p_lload dX11_finest_166 9 rfl ?_
            refine p_lload dX11_finest_168 1 rfl ?_
            refine p_lload dX11_finest_170 0 rfl ?_
            refine p_ladd dX11_finest_172 ?_
            refine p_lmul dX11_finest_173 ?_
            refine p_lcmp (z := (if w64 ((w64 (z12 * z14)) * v9) < w64 (v7 * (w64 (z12 + z14))) then (-1) else if w64 ((w64 (z12 * z14)) * v9) = w64 (v7 * (w64 (z12 + z14))) then 0 else 1)) dX11_finest_174 rfl ?_
            refine p_if_le (tgt := 182) (q := w64 ((w64 (z12 * z14)) * v9) ≤ w64 (v7 * (w64 (z12 + z14)))) dX11_finest_175 (by decide) (lc_le (w64 ((w64 (z12 * z14)) * v9)) (w64 (v7 * (w64 (z12 + z14))))) (fun hc => ?_) (fun hc => ?_)
            · replace hf := Eq.mp (if_pos hc) hf
              refine p_sub (ls' := [(0, vr 11 a0 0), (1, vi v1), (2, vi v2), (3, vi v3), (4, vi v4), (5, vi v5), (6, vi v6), (7, vl v7), (9, vl v9), (11, vi v11), (12, vi v12), (13, vl z12), (15, vl z14)]) [2, 3, 4, 5, 6, 7, 8, 9, 10, 11, 12, 1, 0] rfl ?_
              exact t_X11_finest_182 h0 ih hX225 _ _ _ _ _ _ _ _ _ _ _ _ _ hf
            · replace hf := Eq.mp (if_neg hc) hf
              refine p_sub (ls' := [(0, vr 11 a0 0), (1, vi v1), (2, vi v2), (3, vi v3), (4, vi v4), (5, vi v5), (6, vi v6), (7, vl v7), (9, vl v9), (11, vi v11), (12, vi v12), (13, vl z12), (15, vl z14)]) [2, 3, 4, 5, 6, 7, 8, 9, 10, 11, 12, 1, 0] rfl ?_
              exact t_X11_finest_178 h0 ih hX225 _ _ _ _ _ _ _ _ _ _ _ _ _ hf
      · replace hf := Eq.mp (if_neg hc) hf
        refine p_goto (tgt := 219) dX11_finest_137 (by decide) ?_
        refine p_sub (ls' := [(0, vr 11 a0 0), (1, vi v1), (2, vi v2), (3, vi v3), (4, vi v4), (5, vi v5), (6, vi v6), (7, vl v7), (9, vl v9), (11, vi v11), (12, vi v12)]) [2, 3, 4, 5, 6, 7, 8, 9, 10, 11, 12] rfl ?_
        exact t_X11_finest_219 h0 ih hX225 _ _ _ _ _ _ _ _ _ _ _ hf
def w_X11_finest_79 (K : Int → Hh → Prop) (X231 : Int → Int → Int → Int → Int → Int → Hh → Prop) (a0 : Int) : Nat → Int → Int → Int → Int → Int → Int → Int → Int → Int → Hh → Prop
  | 0, _, _, _, _, _, _, _, _, _, _ => False
  | n + 1, v1, v2, v3, v4, v5, v6, v7, v9, v11, h => if v11 ≥ h a0 42 then (X231 v1 v2 v3 v4 v5 v6 h) else (w_X11_finest_91 K (fun u24 u25 u26 u27 u28 u29 u30 u31 u32 h23 => vb (w32 (u32 + 1)) fun z33 => w_X11_finest_79 K X231 a0 n u24 u25 u26 u27 u28 u29 u30 u31 z33 h23) a0 NF v1 v2 v3 v4 v5 v6 v7 v9 v11 0 h)
set_option maxRecDepth 100000 in
set_option maxHeartbeats 4000000 in
theorem t_X11_finest_79 {G : Gx} {n0 : Int} {K : Int → Hh → Prop} {X231 : Int → Int → Int → Int → Int → Int → Hh → Prop} {a0 : Int} (h0 : 0 ≤ a0) (hX231 : ∀ (v1 v2 v3 v4 v5 v6 : Int) (h : Hh), X231 v1 v2 v3 v4 v5 v6 h → PW G M_X11_finest rm_X11_finest 0 0 [] n0 K 231 [(0, vr 11 a0 0), (1, vi v1), (2, vi v2), (3, vi v3), (4, vi v4), (5, vi v5), (6, vi v6)] [] [] 0 0 h) : ∀ (n : Nat) (v1 v2 v3 v4 v5 v6 v7 v9 v11 : Int) (h : Hh), w_X11_finest_79 K X231 a0 n v1 v2 v3 v4 v5 v6 v7 v9 v11 h → PW G M_X11_finest rm_X11_finest 0 0 [] n0 K 79 [(0, vr 11 a0 0), (1, vi v1), (2, vi v2), (3, vi v3), (4, vi v4), (5, vi v5), (6, vi v6), (7, vl v7), (9, vl v9), (11, vi v11)] [] [] 0 0 h := by
  intro n
  induction n with
  | zero =>
    intro v1 v2 v3 v4 v5 v6 v7 v9 v11 h hf
    rw [w_X11_finest_79] at hf
    exact hf.elim
  | succ n ih =>
    intro v1 v2 v3 v4 v5 v6 v7 v9 v11 h hf
    rw [w_X11_finest_79] at hf
    refine p_iload dX11_finest_79 9 rfl ?_
    refine p_aload_n dX11_finest_81 rfl 0 rfl ?_
    refine p_get (c := 11) (vi (h a0 42)) dX11_finest_82 42 tb_935 (by decide) (by decide) (Or.inl rfl) h0 rfl rfl ?_
    refine p_icmp_ge (tgt := 231) (q := v11 ≥ h a0 42) dX11_finest_85 (by decide) Iff.rfl (fun hc => ?_) (fun hc => ?_)
    · replace hf := Eq.mp (if_pos hc) hf
      refine p_sub (ls' := [(0, vr 11 a0 0), (1, vi v1), (2, vi v2), (3, vi v3), (4, vi v4), (5, vi v5), (6, vi v6)]) [0, 1, 2, 3, 4, 5, 6] rfl ?_
      exact hX231 _ _ _ _ _ _ _ hf
    · replace hf := Eq.mp (if_neg hc) hf
      refine p_iconst dX11_finest_88 (by decide) ?_
      refine p_istore (ls' := [(12, vi 0), (0, vr 11 a0 0), (1, vi v1), (2, vi v2), (3, vi v3), (4, vi v4), (5, vi v5), (6, vi v6), (7, vl v7), (9, vl v9), (11, vi v11)]) dX11_finest_89 (by decide) rfl ?_
      refine p_sub (ls' := [(0, vr 11 a0 0), (1, vi v1), (2, vi v2), (3, vi v3), (4, vi v4), (5, vi v5), (6, vi v6), (7, vl v7), (9, vl v9), (11, vi v11), (12, vi 0)]) [1, 2, 3, 4, 5, 6, 7, 8, 9, 10, 0] rfl ?_
      refine t_X11_finest_91 h0 ?_ NF _ _ _ _ _ _ _ _ _ _ _ hf
      · intro u24 u25 u26 u27 u28 u29 u30 u31 u32 h23 hf
        refine p_iinc (ls' := [(11, vi (w32 (u32 + 1))), (0, vr 11 a0 0), (1, vi u24), (2, vi u25), (3, vi u26), (4, vi u27), (5, vi u28), (6, vi u29), (7, vl u30), (9, vl u31)]) dX11_finest_225 9 rfl (by decide) rfl ?_
        replace hf := vb_e hf
        generalize w32 (u32 + 1) = z33 at hf ⊢
        refine p_goto (tgt := 79) dX11_finest_228 (by decide) ?_
        refine p_sub (ls' := [(0, vr 11 a0 0), (1, vi u24), (2, vi u25), (3, vi u26), (4, vi u27), (5, vi u28), (6, vi u29), (7, vl u30), (9, vl u31), (11, vi z33)]) [1, 2, 3, 4, 5, 6, 7, 8, 9, 0] rfl ?_
        exact ih _ _ _ _ _ _ _ _ _ _ hf
def w_X11_finest_249 (K : Int → Hh → Prop) (B : Int → Int → Int → Int → Int → Hh → Prop) (X237 : Hh → Prop) (X255 : Int → Hh → Prop) (a0 : Int) (v1 v2 v3 v5 v6 : Int) (h : Hh) : Prop := vb (w32 (v6 + 1)) fun z41 => B v1 v2 v3 v5 z41 h
set_option maxRecDepth 100000 in
set_option maxHeartbeats 4000000 in
theorem t_X11_finest_249 {G : Gx} {n0 : Int} {K : Int → Hh → Prop} {B : Int → Int → Int → Int → Int → Hh → Prop} {X237 : Hh → Prop} {X255 : Int → Hh → Prop} {a0 : Int} (h0 : 0 ≤ a0) (hB : ∀ (v1 v2 v3 v5 v6 : Int) (h : Hh), B v1 v2 v3 v5 v6 h → PW G M_X11_finest rm_X11_finest 0 0 [] n0 K 57 [(0, vr 11 a0 0), (1, vi v1), (2, vi v2), (3, vi v3), (5, vi v5), (6, vi v6)] [] [] 0 0 h) (hX237 : ∀ (h : Hh), X237  h → PW G M_X11_finest rm_X11_finest 0 0 [] n0 K 237 [] [] [] 0 0 h) (hX255 : ∀ (v5 : Int) (h : Hh), X255 v5 h → PW G M_X11_finest rm_X11_finest 0 0 [] n0 K 255 [(5, vi v5)] [] [] 0 0 h)  (v1 v2 v3 v5 v6 : Int) (h : Hh) (hf : w_X11_finest_249 K B X237 X255 a0 v1 v2 v3 v5 v6 h) : PW G M_X11_finest rm_X11_finest 0 0 [] n0 K 249 [(0, vr 11 a0 0), (1, vi v1), (2, vi v2), (3, vi v3), (5, vi v5), (6, vi v6)] [] [] 0 0 h := by
  unfold w_X11_finest_249 at hf
  refine p_iinc (ls' := [(6, vi (w32 (v6 + 1))), (0, vr 11 a0 0), (1, vi v1), (2, vi v2), (3, vi v3), (5, vi v5)]) dX11_finest_249 5 rfl (by decide) rfl ?_
  replace hf := vb_e hf
  generalize w32 (v6 + 1) = z41 at hf ⊢
  refine p_goto (tgt := 57) dX11_finest_252 (by decide) ?_
  refine p_sub (ls' := [(0, vr 11 a0 0), (1, vi v1), (2, vi v2), (3, vi v3), (5, vi v5), (6, vi z41)]) [1, 2, 3, 4, 5, 0] rfl ?_
  exact hB _ _ _ _ _ _ hf
def w_X11_finest_57 (K : Int → Hh → Prop) (X237 : Hh → Prop) (X255 : Int → Hh → Prop) (a0 : Int) : Nat → Int → Int → Int → Int → Int → Hh → Prop
  | 0, _, _, _, _, _, _ => False
  | n + 1, v1, v2, v3, v5, v6, h => w_X11_pagesOf a0 v1 h (fun r9 h10 => if v6 ≥ r9 then (X255 v5 h10) else (w_X11_finest_79 K (fun u35 u36 u37 u38 u39 u40 h34 => if u38 ≠ (-1) then (if u40 ≠ u37 then (w_X11_finest_249 K (w_X11_finest_57 K X237 X255 a0 n) X237 X255 a0 u35 u36 u37 u39 u40 h34) else (w_X11_finest_249 K (w_X11_finest_57 K X237 X255 a0 n) X237 X255 a0 u35 u36 u37 u38 u40 h34)) else (X237  h34)) a0 NF v1 v2 v3 (-1) v5 v6 0 1 0 h10))
set_option maxRecDepth 100000 in
set_option maxHeartbeats 4000000 in
theorem t_X11_finest_57 {G : Gx} {n0 : Int} {K : Int → Hh → Prop} {X237 : Hh → Prop} {X255 : Int → Hh → Prop} {a0 : Int} (h0 : 0 ≤ a0) (hX237 : ∀ (h : Hh), X237  h → PW G M_X11_finest rm_X11_finest 0 0 [] n0 K 237 [] [] [] 0 0 h) (hX255 : ∀ (v5 : Int) (h : Hh), X255 v5 h → PW G M_X11_finest rm_X11_finest 0 0 [] n0 K 255 [(5, vi v5)] [] [] 0 0 h) : ∀ (n : Nat) (v1 v2 v3 v5 v6 : Int) (h : Hh), w_X11_finest_57 K X237 X255 a0 n v1 v2 v3 v5 v6 h → PW G M_X11_finest rm_X11_finest 0 0 [] n0 K 57 [(0, vr 11 a0 0), (1, vi v1), (2, vi v2), (3, vi v3), (5, vi v5), (6, vi v6)] [] [] 0 0 h := by
  intro n
  induction n with
  | zero =>
    intro v1 v2 v3 v5 v6 h hf
    rw [w_X11_finest_57] at hf
    exact hf.elim
  | succ n ih =>
    intro v1 v2 v3 v5 v6 h hf
    rw [w_X11_finest_57] at hf
    refine p_iload dX11_finest_57 5 rfl ?_
    refine p_aload_n dX11_finest_59 rfl 0 rfl ?_
    refine p_iload_n dX11_finest_60 rfl 1 rfl ?_
    refine p_callVi dX11_finest_61 M_X11_pagesOf (Or.inl rfl) [vi v1] (t_X11_pagesOf _ _ _ _ h0 hf) ok_X11_pagesOf rfl (c := 11) (by decide) h0 rfl tb_1211 ⟨tb_1213, ts_87⟩ rfl (Nat.le_of_ble_eq_true rfl) ⟨rfl, rfl⟩ ⟨by decide, by decide⟩ ⟨by decide, by decide⟩ (fun r9 h10 hf => ?_)
    refine p_icmp_ge (tgt := 255) (q := v6 ≥ r9) dX11_finest_64 (by decide) Iff.rfl (fun hc => ?_) (fun hc => ?_)
    · replace hf := Eq.mp (if_pos hc) hf
      refine p_sub (ls' := [(5, vi v5)]) [4] rfl ?_
      exact hX255 _ _ hf
    · replace hf := Eq.mp (if_neg hc) hf
      refine p_iconst dX11_finest_67 (by decide) ?_
      refine p_istore (ls' := [(4, vi (-1)), (0, vr 11 a0 0), (1, vi v1), (2, vi v2), (3, vi v3), (5, vi v5), (6, vi v6)]) dX11_finest_68 (by decide) rfl ?_
      refine p_lconst (z := 0) dX11_finest_70 rfl ?_
      refine p_lstore (ls' := [(7, vl 0), (4, vi (-1)), (0, vr 11 a0 0), (1, vi v1), (2, vi v2), (3, vi v3), (5, vi v5), (6, vi v6)]) dX11_finest_71 (by decide) rfl ?_
      refine p_lconst (z := 1) dX11_finest_73 rfl ?_
      refine p_lstore (ls' := [(9, vl 1), (7, vl 0), (4, vi (-1)), (0, vr 11 a0 0), (1, vi v1), (2, vi v2), (3, vi v3), (5, vi v5), (6, vi v6)]) dX11_finest_74 (by decide) rfl ?_
      refine p_iconst dX11_finest_76 (by decide) ?_
      refine p_istore (ls' := [(11, vi 0), (9, vl 1), (7, vl 0), (4, vi (-1)), (0, vr 11 a0 0), (1, vi v1), (2, vi v2), (3, vi v3), (5, vi v5), (6, vi v6)]) dX11_finest_77 (by decide) rfl ?_
      refine p_sub (ls' := [(0, vr 11 a0 0), (1, vi v1), (2, vi v2), (3, vi v3), (4, vi (-1)), (5, vi v5), (6, vi v6), (7, vl 0), (9, vl 1), (11, vi 0)]) [4, 5, 6, 7, 3, 8, 9, 2, 1, 0] rfl ?_
      refine t_X11_finest_79 h0 ?_ NF _ _ _ _ _ _ _ _ _ _ hf
      · intro u35 u36 u37 u38 u39 u40 h34 hf
        refine p_iload dX11_finest_231 4 rfl ?_
        refine p_iconst dX11_finest_233 (by decide) ?_
        refine p_icmp_ne (tgt := 239) (q := u38 ≠ (-1)) dX11_finest_234 (by decide) Iff.rfl (fun hc => ?_) (fun hc => ?_)
        · replace hf := Eq.mp (if_pos hc) hf
          refine p_iload dX11_finest_239 6 rfl ?_
          refine p_iload_n dX11_finest_241 rfl 3 rfl ?_
          refine p_icmp_ne (tgt := 249) (q := u40 ≠ u37) dX11_finest_242 (by decide) Iff.rfl (fun hc => ?_) (fun hc => ?_)
          · replace hf := Eq.mp (if_pos hc) hf
            refine p_sub (ls' := [(0, vr 11 a0 0), (1, vi u35), (2, vi u36), (3, vi u37), (5, vi u39), (6, vi u40)]) [0, 1, 2, 3, 5, 6] rfl ?_
            exact t_X11_finest_249 h0 ih hX237 hX255 _ _ _ _ _ _ hf
          · replace hf := Eq.mp (if_neg hc) hf
            refine p_iload dX11_finest_245 4 rfl ?_
            refine p_istore (ls' := [(5, vi u38), (0, vr 11 a0 0), (1, vi u35), (2, vi u36), (3, vi u37), (4, vi u38), (6, vi u40)]) dX11_finest_247 (by decide) rfl ?_
            refine p_sub (ls' := [(0, vr 11 a0 0), (1, vi u35), (2, vi u36), (3, vi u37), (5, vi u38), (6, vi u40)]) [1, 2, 3, 4, 0, 6] rfl ?_
            exact t_X11_finest_249 h0 ih hX237 hX255 _ _ _ _ _ _ hf
        · replace hf := Eq.mp (if_neg hc) hf
          refine p_sub (ls' := []) [] rfl ?_
          exact hX237  _ hf
def w_X11_finest (a0 x1 x2 x3 : Int) (h : Hh) (K : Int → Hh → Prop) : Prop := w_X11_isChart a0 x1 h (fun r1 h2 => if r1 = 0 then (w_X11_finest_46 K  a0  h2) else (w_X11_in x2 10 30000 h2 (fun r3 h4 => if r3 = 0 then (w_X11_finest_46 K  a0  h4) else (w_X11_pagesOf a0 x1 h4 (fun r5 h6 => w_X11_in x3 0 (w32 (r5 - 1)) h6 (fun r7 h8 => if r7 = 0 then (w_X11_finest_46 K  a0  h8) else (if h8 a0 42 ≠ 0 then (w_X11_finest_57 K (fun h42 => K (-1) h42) (fun u44 h43 => K u44 h43) a0 NF x1 x2 x3 (-1) 0 h8) else (w_X11_finest_46 K  a0  h8))))))))
set_option maxRecDepth 100000 in
set_option maxHeartbeats 4000000 in
theorem t_X11_finest {G : Gx} (a0 x1 x2 x3 : Int) (h : Hh) (K : Int → Hh → Prop) (h0 : 0 ≤ a0) (hf : w_X11_finest a0 x1 x2 x3 h K) : CT G M_X11_finest rm_X11_finest 0 0 [] [vr 11 a0 0, vi x1, vi x2, vi x3] h K := by
  unfold w_X11_finest at hf
  refine CT.of (ls0 := [(0, vr 11 a0 0), (1, vi x1), (2, vi x2), (3, vi x3)]) (plainFor_of_name (by decide +kernel)) (by decide +kernel) (Nat.le_of_ble_eq_true rfl) rfl rfl ?_
  refine p_aload_n dX11_finest_0 rfl 0 rfl ?_
  refine p_iload_n dX11_finest_1 rfl 1 rfl ?_
  refine p_callVi dX11_finest_2 M_X11_isChart (Or.inr rfl) [vi x1] (t_X11_isChart _ _ _ _ h0 hf) ok_X11_isChart rfl (c := 11) (by decide) h0 rfl tb_1165 ⟨tb_1167, ts_81⟩ rfl (Nat.le_of_ble_eq_true rfl) ⟨rfl, rfl⟩ ⟨by decide, by decide⟩ ⟨by decide, by decide⟩ (fun r1 h2 hf => ?_)
  refine p_if_eq (tgt := 46) (q := r1 = 0) dX11_finest_5 (by decide) Iff.rfl (fun hc => ?_) (fun hc => ?_)
  · replace hf := Eq.mp (if_pos hc) hf
    refine p_sub (ls' := []) [] rfl ?_
    exact t_X11_finest_46 h0   _ hf
  · replace hf := Eq.mp (if_neg hc) hf
    refine p_iload_n dX11_finest_8 rfl 2 rfl ?_
    refine p_i2l dX11_finest_9 ?_
    refine p_ldc2 (z := 10) dX11_finest_10 tb_1124 (by decide) ?_
    refine p_ldc2 (z := 30000) dX11_finest_13 tb_1174 (by decide) ?_
    refine p_callSi dX11_finest_16 M_X11_in (Or.inr rfl) [vl x2, vl 10, vl 30000] (t_X11_in _ _ _ _ _ hf) ok_X11_in rfl tb_1079 tb_1080 rfl (Nat.le_of_ble_eq_true rfl) ⟨rfl, rfl⟩ ⟨by decide, by decide⟩ ⟨by decide, by decide⟩ (fun r3 h4 hf => ?_)
    refine p_if_eq (tgt := 46) (q := r3 = 0) dX11_finest_19 (by decide) Iff.rfl (fun hc => ?_) (fun hc => ?_)
    · replace hf := Eq.mp (if_pos hc) hf
      refine p_sub (ls' := []) [] rfl ?_
      exact t_X11_finest_46 h0   _ hf
    · replace hf := Eq.mp (if_neg hc) hf
      refine p_iload_n dX11_finest_22 rfl 3 rfl ?_
      refine p_i2l dX11_finest_23 ?_
      refine p_lconst (z := 0) dX11_finest_24 rfl ?_
      refine p_aload_n dX11_finest_25 rfl 0 rfl ?_
      refine p_iload_n dX11_finest_26 rfl 1 rfl ?_
      refine p_callVi dX11_finest_27 M_X11_pagesOf (Or.inl rfl) [vi x1] (t_X11_pagesOf _ _ _ _ h0 hf) ok_X11_pagesOf rfl (c := 11) (by decide) h0 rfl tb_1211 ⟨tb_1213, ts_87⟩ rfl (Nat.le_of_ble_eq_true rfl) ⟨rfl, rfl⟩ ⟨by decide, by decide⟩ ⟨by decide, by decide⟩ (fun r5 h6 hf => ?_)
      refine p_iconst dX11_finest_30 (by decide) ?_
      refine p_isub dX11_finest_31 ?_
      refine p_i2l dX11_finest_32 ?_
      refine p_callSi dX11_finest_33 M_X11_in (Or.inr rfl) [vl x3, vl 0, vl (w32 (r5 - 1))] (t_X11_in _ _ _ _ _ hf) ok_X11_in rfl tb_1079 tb_1080 rfl (Nat.le_of_ble_eq_true rfl) ⟨rfl, rfl⟩ ⟨by decide, by decide⟩ ⟨by decide, by decide⟩ (fun r7 h8 hf => ?_)
      refine p_if_eq (tgt := 46) (q := r7 = 0) dX11_finest_36 (by decide) Iff.rfl (fun hc => ?_) (fun hc => ?_)
      · replace hf := Eq.mp (if_pos hc) hf
        refine p_sub (ls' := []) [] rfl ?_
        exact t_X11_finest_46 h0   _ hf
      · replace hf := Eq.mp (if_neg hc) hf
        refine p_aload_n dX11_finest_39 rfl 0 rfl ?_
        refine p_get (c := 11) (vi (h8 a0 42)) dX11_finest_40 42 tb_935 (by decide) (by decide) (Or.inl rfl) h0 rfl rfl ?_
        refine p_if_ne (tgt := 48) (q := h8 a0 42 ≠ 0) dX11_finest_43 (by decide) Iff.rfl (fun hc => ?_) (fun hc => ?_)
        · replace hf := Eq.mp (if_pos hc) hf
          refine p_iconst dX11_finest_48 (by decide) ?_
          refine p_istore (ls' := [(4, vi (-1)), (0, vr 11 a0 0), (1, vi x1), (2, vi x2), (3, vi x3)]) dX11_finest_49 (by decide) rfl ?_
          refine p_iconst dX11_finest_51 (by decide) ?_
          refine p_istore (ls' := [(5, vi (-1)), (4, vi (-1)), (0, vr 11 a0 0), (1, vi x1), (2, vi x2), (3, vi x3)]) dX11_finest_52 (by decide) rfl ?_
          refine p_iconst dX11_finest_54 (by decide) ?_
          refine p_istore (ls' := [(6, vi 0), (5, vi (-1)), (4, vi (-1)), (0, vr 11 a0 0), (1, vi x1), (2, vi x2), (3, vi x3)]) dX11_finest_55 (by decide) rfl ?_
          refine p_sub (ls' := [(0, vr 11 a0 0), (1, vi x1), (2, vi x2), (3, vi x3), (5, vi (-1)), (6, vi 0)]) [3, 4, 5, 6, 1, 0] rfl ?_
          refine t_X11_finest_57 h0 ?_ ?_ NF _ _ _ _ _ _ hf
          · intro h42 hf
            refine p_iconst dX11_finest_237 (by decide) ?_
            exact p_iret dX11_finest_238 rfl (by decide) (by decide) (fun _ q => absurd q List.not_mem_nil) hf
          · intro u44 h43 hf
            refine p_iload dX11_finest_255 0 rfl ?_
            exact p_iret dX11_finest_257 rfl (by decide) (by decide) (fun _ q => absurd q List.not_mem_nil) hf
        · replace hf := Eq.mp (if_neg hc) hf
          refine p_sub (ls' := []) [] rfl ?_
          exact t_X11_finest_46 h0   _ hf
theorem ok_X11_finest : mOK M_X11_finest 3 := ⟨tb_1277, tb_9, by decide +kernel⟩
abbrev M_X11_go : MD := (yX11_go, cX11_go, 2, some .int)
abbrev rm_X11_go : Room := { frames := 1, cells := 0, slots := 0, locals := 25 }
def w_X11_go_39 (K : Int → Hh → Prop) (a0 : Int) (s0 s1 : Int) (h : Hh) : Prop := 0 ≤ s1 ∧ (hb (up h s1 29 s0) fun h4 => K (h4 a0 29) h4)
set_option maxRecDepth 100000 in
set_option maxHeartbeats 4000000 in
theorem t_X11_go_39 {G : Gx} {n0 : Int} {K : Int → Hh → Prop} {a0 : Int} (h0 : 0 ≤ a0)  (s0 s1 : Int) (h : Hh) (hf : w_X11_go_39 K  a0 s0 s1 h) : PW G M_X11_go rm_X11_go 0 0 [] n0 K 39 [(0, vr 11 a0 0)] [vi s0, vr 11 s1 0] [] 0 0 h := by
  unfold w_X11_go_39 at hf
  obtain ⟨c3, hf⟩ := hf
  refine p_puti (c := 11) dX11_go_39 29 tb_922 (by decide) (by decide) (Or.inl rfl) c3 rfl rfl (fun _ => by decide) (up h s1 29 s0) rfl ?_
  replace hf := hb_e hf
  generalize up h s1 29 s0 = h4 at hf ⊢
  refine p_aload_n dX11_go_42 rfl 0 rfl ?_
  refine p_get (c := 11) (vi (h4 a0 29)) dX11_go_43 29 tb_922 (by decide) (by decide) (Or.inl rfl) h0 rfl rfl ?_
  exact p_iret dX11_go_46 rfl (by decide) (by decide) (fun _ q => absurd q List.not_mem_nil) hf
def w_X11_go (a0 x1 : Int) (h : Hh) (K : Int → Hh → Prop) : Prop := w_X11_in x1 0 50 h (fun r1 h2 => if r1 ≠ 0 then (if w32 ((h2 a0 29) + x1) ≤ 300 then (w_X11_go_39 K  a0 (w32 ((h2 a0 29) + x1)) a0 h2) else (w_X11_go_39 K  a0 300 a0 h2)) else (K (-1) h2))
set_option maxRecDepth 100000 in
set_option maxHeartbeats 4000000 in
theorem t_X11_go {G : Gx} (a0 x1 : Int) (h : Hh) (K : Int → Hh → Prop) (h0 : 0 ≤ a0) (hf : w_X11_go a0 x1 h K) : CT G M_X11_go rm_X11_go 0 0 [] [vr 11 a0 0, vi x1] h K := by
  unfold w_X11_go at hf
  refine CT.of (ls0 := [(0, vr 11 a0 0), (1, vi x1)]) (plainFor_of_name (by decide +kernel)) (by decide +kernel) (Nat.le_of_ble_eq_true rfl) rfl rfl ?_
  refine p_iload_n dX11_go_0 rfl 1 rfl ?_
  refine p_i2l dX11_go_1 ?_
  refine p_lconst (z := 0) dX11_go_2 rfl ?_
  refine p_ldc2 (z := 50) dX11_go_3 tb_1160 (by decide) ?_
  refine p_callSi dX11_go_6 M_X11_in (Or.inr rfl) [vl x1, vl 0, vl 50] (t_X11_in _ _ _ _ _ hf) ok_X11_in rfl tb_1079 tb_1080 rfl (Nat.le_of_ble_eq_true rfl) ⟨rfl, rfl⟩ ⟨by decide, by decide⟩ ⟨by decide, by decide⟩ (fun r1 h2 hf => ?_)
  refine p_if_ne (tgt := 14) (q := r1 ≠ 0) dX11_go_9 (by decide) Iff.rfl (fun hc => ?_) (fun hc => ?_)
  · replace hf := Eq.mp (if_pos hc) hf
    refine p_aload_n dX11_go_14 rfl 0 rfl ?_
    refine p_aload_n dX11_go_15 rfl 0 rfl ?_
    refine p_get (c := 11) (vi (h2 a0 29)) dX11_go_16 29 tb_922 (by decide) (by decide) (Or.inl rfl) h0 rfl rfl ?_
    refine p_iload_n dX11_go_19 rfl 1 rfl ?_
    refine p_iadd dX11_go_20 ?_
    refine p_sipush dX11_go_21 (by decide) (by decide) ?_
    refine p_icmp_le (tgt := 33) (q := w32 ((h2 a0 29) + x1) ≤ 300) dX11_go_24 (by decide) Iff.rfl (fun hc => ?_) (fun hc => ?_)
    · replace hf := Eq.mp (if_pos hc) hf
      refine p_aload_n dX11_go_33 rfl 0 rfl ?_
      refine p_get (c := 11) (vi (h2 a0 29)) dX11_go_34 29 tb_922 (by decide) (by decide) (Or.inl rfl) h0 rfl rfl ?_
      refine p_iload_n dX11_go_37 rfl 1 rfl ?_
      refine p_iadd dX11_go_38 ?_
      refine p_sub (ls' := [(0, vr 11 a0 0)]) [0] rfl ?_
      exact t_X11_go_39 h0  _ _ _ hf
    · replace hf := Eq.mp (if_neg hc) hf
      refine p_sipush dX11_go_27 (by decide) (by decide) ?_
      refine p_goto (tgt := 39) dX11_go_30 (by decide) ?_
      refine p_sub (ls' := [(0, vr 11 a0 0)]) [0] rfl ?_
      exact t_X11_go_39 h0  _ _ _ hf
  · replace hf := Eq.mp (if_neg hc) hf
    refine p_iconst dX11_go_12 (by decide) ?_
    exact p_iret dX11_go_13 rfl (by decide) (by decide) (fun _ q => absurd q List.not_mem_nil) hf
theorem ok_X11_go : mOK M_X11_go 1 := ⟨tb_1282, tb_9, by decide +kernel⟩
abbrev M_X11_move : MD := (yX11_move, cX11_move, 5, some .int)
abbrev rm_X11_move : Room := { frames := 2, cells := 0, slots := 0, locals := 46 }
def w_X11_move_82 (K : Int → Hh → Prop) (a0 : Int) (h : Hh) : Prop := K (-1) h
set_option maxRecDepth 100000 in
set_option maxHeartbeats 4000000 in
theorem t_X11_move_82 {G : Gx} {n0 : Int} {K : Int → Hh → Prop} {a0 : Int} (h0 : 0 ≤ a0)  (h : Hh) (hf : w_X11_move_82 K  a0  h) : PW G M_X11_move rm_X11_move 0 0 [] n0 K 82 [] [] [] 0 0 h := by
  unfold w_X11_move_82 at hf
  refine p_iconst dX11_move_82 (by decide) ?_
  exact p_iret dX11_move_83 rfl (by decide) (by decide) (fun _ q => absurd q List.not_mem_nil) hf
def w_X11_move (a0 x1 x2 x3 x4 : Int) (h : Hh) (K : Int → Hh → Prop) : Prop := w_X11_isChart a0 x1 h (fun r1 h2 => if r1 = 0 then (w_X11_move_82 K  a0  h2) else (((0 : Int) ≤ x1 ∧ x1 < 6) ∧ (((0 : Int) ≤ h2 (a0 + 11) x1 ∧ h2 (a0 + 11) x1 < 6) ∧ (w_X11_in x2 1 (w32 ((h2 (a0 + 5) (h2 (a0 + 11) x1)) - 1)) h2 (fun r5 h6 => if r5 = 0 then (w_X11_move_82 K  a0  h6) else (((0 : Int) ≤ w32 ((w32 (5 * (h6 (a0 + 11) x1))) + x2) ∧ w32 ((w32 (5 * (h6 (a0 + 11) x1))) + x2) < 30) ∧ (w_X11_in x3 0 (w32 ((h6 (a0 + 9) (w32 ((w32 (5 * (h6 (a0 + 11) x1))) + x2))) - 1)) h6 (fun r8 h9 => if r8 = 0 then (w_X11_move_82 K  a0  h9) else (w_X11_in x4 (-99999) 99999 h9 (fun r10 h11 => if r10 = 0 then (w_X11_move_82 K  a0  h11) else (if h11 a0 30 ≠ 40 then (((0 : Int) ≤ h11 a0 30 ∧ h11 a0 30 < 40) ∧ (hb (up h11 (a0 + 20) (h11 a0 30) x1) fun h13 => ((0 : Int) ≤ h13 a0 30 ∧ h13 a0 30 < 40) ∧ (hb (up h13 (a0 + 21) (h13 a0 30) x2) fun h15 => ((0 : Int) ≤ h15 a0 30 ∧ h15 a0 30 < 40) ∧ (hb (up h15 (a0 + 22) (h15 a0 30) x3) fun h17 => ((0 : Int) ≤ h17 a0 30 ∧ h17 a0 30 < 40) ∧ (hb (up h17 (a0 + 23) (h17 a0 30) x4) fun h19 => ((0 : Int) ≤ h19 a0 30 ∧ h19 a0 30 < 40) ∧ (hb (up h19 (a0 + 24) (h19 a0 30) (h19 a0 29)) fun h21 => hb (up h21 a0 30 (w32 ((h21 a0 30) + 1))) fun h22 => K (h22 a0 30) h22)))))) else (w_X11_move_82 K  a0  h11))))))))))))
set_option maxRecDepth 100000 in
set_option maxHeartbeats 4000000 in
theorem t_X11_move {G : Gx} (a0 x1 x2 x3 x4 : Int) (h : Hh) (K : Int → Hh → Prop) (h0 : 0 ≤ a0) (hf : w_X11_move a0 x1 x2 x3 x4 h K) : CT G M_X11_move rm_X11_move 0 0 [] [vr 11 a0 0, vi x1, vi x2, vi x3, vi x4] h K := by
  unfold w_X11_move at hf
  refine CT.of (ls0 := [(0, vr 11 a0 0), (1, vi x1), (2, vi x2), (3, vi x3), (4, vi x4)]) (plainFor_of_name (by decide +kernel)) (by decide +kernel) (Nat.le_of_ble_eq_true rfl) rfl rfl ?_
  refine p_aload_n dX11_move_0 rfl 0 rfl ?_
  refine p_iload_n dX11_move_1 rfl 1 rfl ?_
  refine p_callVi dX11_move_2 M_X11_isChart (Or.inr rfl) [vi x1] (t_X11_isChart _ _ _ _ h0 hf) ok_X11_isChart rfl (c := 11) (by decide) h0 rfl tb_1165 ⟨tb_1167, ts_81⟩ rfl (Nat.le_of_ble_eq_true rfl) ⟨rfl, rfl⟩ ⟨by decide, by decide⟩ ⟨by decide, by decide⟩ (fun r1 h2 hf => ?_)
  refine p_if_eq (tgt := 82) (q := r1 = 0) dX11_move_5 (by decide) Iff.rfl (fun hc => ?_) (fun hc => ?_)
  · replace hf := Eq.mp (if_pos hc) hf
    refine p_sub (ls' := []) [] rfl ?_
    exact t_X11_move_82 h0   _ hf
  · replace hf := Eq.mp (if_neg hc) hf
    refine p_iload_n dX11_move_8 rfl 2 rfl ?_
    refine p_i2l dX11_move_9 ?_
    refine p_lconst (z := 1) dX11_move_10 rfl ?_
    refine p_aload_n dX11_move_11 rfl 0 rfl ?_
    refine p_lay (c := 11) (tq := 100) (n := 6) dX11_move_12 12 5 tb_905 (by decide) (by decide) h0 (by decide) (by decide) (fun _ => rfl) (vr 100 (a0 + 5) 6) rfl ?_
    refine p_aload_n dX11_move_15 rfl 0 rfl ?_
    refine p_lay (c := 11) (tq := 100) (n := 6) dX11_move_16 19 11 tb_912 (by decide) (by decide) h0 (by decide) (by decide) (fun _ => rfl) (vr 100 (a0 + 11) 6) rfl ?_
    refine p_iload_n dX11_move_19 rfl 1 rfl ?_
    obtain ⟨c3, hf⟩ := hf
    refine p_iald dX11_move_20 (by omega) c3 ?_
    obtain ⟨c4, hf⟩ := hf
    refine p_iald dX11_move_21 (by omega) c4 ?_
    refine p_iconst dX11_move_22 (by decide) ?_
    refine p_isub dX11_move_23 ?_
    refine p_i2l dX11_move_24 ?_
    refine p_callSi dX11_move_25 M_X11_in (Or.inr rfl) [vl x2, vl 1, vl (w32 ((h2 (a0 + 5) (h2 (a0 + 11) x1)) - 1))] (t_X11_in _ _ _ _ _ hf) ok_X11_in rfl tb_1079 tb_1080 rfl (Nat.le_of_ble_eq_true rfl) ⟨rfl, rfl⟩ ⟨by decide, by decide⟩ ⟨by decide, by decide⟩ (fun r5 h6 hf => ?_)
    refine p_if_eq (tgt := 82) (q := r5 = 0) dX11_move_28 (by decide) Iff.rfl (fun hc => ?_) (fun hc => ?_)
    · replace hf := Eq.mp (if_pos hc) hf
      refine p_sub (ls' := []) [] rfl ?_
      exact t_X11_move_82 h0   _ hf
    · replace hf := Eq.mp (if_neg hc) hf
      refine p_iload_n dX11_move_31 rfl 3 rfl ?_
      refine p_i2l dX11_move_32 ?_
      refine p_lconst (z := 0) dX11_move_33 rfl ?_
      refine p_aload_n dX11_move_34 rfl 0 rfl ?_
      refine p_lay (c := 11) (tq := 100) (n := 30) dX11_move_35 16 9 tb_909 (by decide) (by decide) h0 (by decide) (by decide) (fun _ => rfl) (vr 100 (a0 + 9) 30) rfl ?_
      refine p_iconst dX11_move_38 (by decide) ?_
      refine p_aload_n dX11_move_39 rfl 0 rfl ?_
      refine p_lay (c := 11) (tq := 100) (n := 6) dX11_move_40 19 11 tb_912 (by decide) (by decide) h0 (by decide) (by decide) (fun _ => rfl) (vr 100 (a0 + 11) 6) rfl ?_
      refine p_iload_n dX11_move_43 rfl 1 rfl ?_
      refine p_iald dX11_move_44 (by omega) c3 ?_
      refine p_imul dX11_move_45 ?_
      refine p_iload_n dX11_move_46 rfl 2 rfl ?_
      refine p_iadd dX11_move_47 ?_
      obtain ⟨c7, hf⟩ := hf
      refine p_iald dX11_move_48 (by omega) c7 ?_
      refine p_iconst dX11_move_49 (by decide) ?_
      refine p_isub dX11_move_50 ?_
      refine p_i2l dX11_move_51 ?_
      refine p_callSi dX11_move_52 M_X11_in (Or.inr rfl) [vl x3, vl 0, vl (w32 ((h6 (a0 + 9) (w32 ((w32 (5 * (h6 (a0 + 11) x1))) + x2))) - 1))] (t_X11_in _ _ _ _ _ hf) ok_X11_in rfl tb_1079 tb_1080 rfl (Nat.le_of_ble_eq_true rfl) ⟨rfl, rfl⟩ ⟨by decide, by decide⟩ ⟨by decide, by decide⟩ (fun r8 h9 hf => ?_)
      refine p_if_eq (tgt := 82) (q := r8 = 0) dX11_move_55 (by decide) Iff.rfl (fun hc => ?_) (fun hc => ?_)
      · replace hf := Eq.mp (if_pos hc) hf
        refine p_sub (ls' := []) [] rfl ?_
        exact t_X11_move_82 h0   _ hf
      · replace hf := Eq.mp (if_neg hc) hf
        refine p_iload dX11_move_58 4 rfl ?_
        refine p_i2l dX11_move_60 ?_
        refine p_ldc2 (z := (-99999)) dX11_move_61 tb_1287 (by decide) ?_
        refine p_ldc2 (z := 99999) dX11_move_64 tb_1288 (by decide) ?_
        refine p_callSi dX11_move_67 M_X11_in (Or.inr rfl) [vl x4, vl (-99999), vl 99999] (t_X11_in _ _ _ _ _ hf) ok_X11_in rfl tb_1079 tb_1080 rfl (Nat.le_of_ble_eq_true rfl) ⟨rfl, rfl⟩ ⟨by decide, by decide⟩ ⟨by decide, by decide⟩ (fun r10 h11 hf => ?_)
        refine p_if_eq (tgt := 82) (q := r10 = 0) dX11_move_70 (by decide) Iff.rfl (fun hc => ?_) (fun hc => ?_)
        · replace hf := Eq.mp (if_pos hc) hf
          refine p_sub (ls' := []) [] rfl ?_
          exact t_X11_move_82 h0   _ hf
        · replace hf := Eq.mp (if_neg hc) hf
          refine p_aload_n dX11_move_73 rfl 0 rfl ?_
          refine p_get (c := 11) (vi (h11 a0 30)) dX11_move_74 30 tb_923 (by decide) (by decide) (Or.inl rfl) h0 rfl rfl ?_
          refine p_bipush dX11_move_77 (by decide) (by decide) ?_
          refine p_icmp_ne (tgt := 84) (q := h11 a0 30 ≠ 40) dX11_move_79 (by decide) Iff.rfl (fun hc => ?_) (fun hc => ?_)
          · replace hf := Eq.mp (if_pos hc) hf
            refine p_aload_n dX11_move_84 rfl 0 rfl ?_
            refine p_lay (c := 11) (tq := 100) (n := 40) dX11_move_85 31 20 tb_924 (by decide) (by decide) h0 (by decide) (by decide) (fun _ => rfl) (vr 100 (a0 + 20) 40) rfl ?_
            refine p_aload_n dX11_move_88 rfl 0 rfl ?_
            refine p_get (c := 11) (vi (h11 a0 30)) dX11_move_89 30 tb_923 (by decide) (by decide) (Or.inl rfl) h0 rfl rfl ?_
            refine p_iload_n dX11_move_92 rfl 1 rfl ?_
            obtain ⟨c12, hf⟩ := hf
            refine p_iast dX11_move_93 (by omega) c12 ?_
            replace hf := hb_e hf
            generalize up h11 (a0 + 20) (h11 a0 30) x1 = h13 at hf ⊢
            refine p_aload_n dX11_move_94 rfl 0 rfl ?_
            refine p_lay (c := 11) (tq := 100) (n := 40) dX11_move_95 32 21 tb_925 (by decide) (by decide) h0 (by decide) (by decide) (fun _ => rfl) (vr 100 (a0 + 21) 40) rfl ?_
            refine p_aload_n dX11_move_98 rfl 0 rfl ?_
            refine p_get (c := 11) (vi (h13 a0 30)) dX11_move_99 30 tb_923 (by decide) (by decide) (Or.inl rfl) h0 rfl rfl ?_
            refine p_iload_n dX11_move_102 rfl 2 rfl ?_
            obtain ⟨c14, hf⟩ := hf
            refine p_iast dX11_move_103 (by omega) c14 ?_
            replace hf := hb_e hf
            generalize up h13 (a0 + 21) (h13 a0 30) x2 = h15 at hf ⊢
            refine p_aload_n dX11_move_104 rfl 0 rfl ?_
            refine p_lay (c := 11) (tq := 100) (n := 40) dX11_move_105 33 22 tb_926 (by decide) (by decide) h0 (by decide) (by decide) (fun _ => rfl) (vr 100 (a0 + 22) 40) rfl ?_
            refine p_aload_n dX11_move_108 rfl 0 rfl ?_
            refine p_get (c := 11) (vi (h15 a0 30)) dX11_move_109 30 tb_923 (by decide) (by decide) (Or.inl rfl) h0 rfl rfl ?_
            refine p_iload_n dX11_move_112 rfl 3 rfl ?_
            obtain ⟨c16, hf⟩ := hf
            refine p_iast dX11_move_113 (by omega) c16 ?_
            replace hf := hb_e hf
            generalize up h15 (a0 + 22) (h15 a0 30) x3 = h17 at hf ⊢
            refine p_aload_n dX11_move_114 rfl 0 rfl ?_
            refine p_lay (c := 11) (tq := 100) (n := 40) dX11_move_115 34 23 tb_927 (by decide) (by decide) h0 (by decide) (by decide) (fun _ => rfl) (vr 100 (a0 + 23) 40) rfl ?_
            refine p_aload_n dX11_move_118 rfl 0 rfl ?_
            refine p_get (c := 11) (vi (h17 a0 30)) dX11_move_119 30 tb_923 (by decide) (by decide) (Or.inl rfl) h0 rfl rfl ?_
            refine p_iload dX11_move_122 4 rfl ?_
            obtain ⟨c18, hf⟩ := hf
            refine p_iast dX11_move_124 (by omega) c18 ?_
            replace hf := hb_e hf
            generalize up h17 (a0 + 23) (h17 a0 30) x4 = h19 at hf ⊢
            refine p_aload_n dX11_move_125 rfl 0 rfl ?_
            refine p_lay (c := 11) (tq := 100) (n := 40) dX11_move_126 35 24 tb_928 (by decide) (by decide) h0 (by decide) (by decide) (fun _ => rfl) (vr 100 (a0 + 24) 40) rfl ?_
            refine p_aload_n dX11_move_129 rfl 0 rfl ?_
            refine p_get (c := 11) (vi (h19 a0 30)) dX11_move_130 30 tb_923 (by decide) (by decide) (Or.inl rfl) h0 rfl rfl ?_
            refine p_aload_n dX11_move_133 rfl 0 rfl ?_
            refine p_get (c := 11) (vi (h19 a0 29)) dX11_move_134 29 tb_922 (by decide) (by decide) (Or.inl rfl) h0 rfl rfl ?_
            obtain ⟨c20, hf⟩ := hf
            refine p_iast dX11_move_137 (by omega) c20 ?_
            replace hf := hb_e hf
            generalize up h19 (a0 + 24) (h19 a0 30) (h19 a0 29) = h21 at hf ⊢
            refine p_aload_n dX11_move_138 rfl 0 rfl ?_
            refine p_dup dX11_move_139 (fun _ q => by cases q) ?_
            refine p_get (c := 11) (vi (h21 a0 30)) dX11_move_140 30 tb_923 (by decide) (by decide) (Or.inl rfl) h0 rfl rfl ?_
            refine p_iconst dX11_move_143 (by decide) ?_
            refine p_iadd dX11_move_144 ?_
            refine p_puti (c := 11) dX11_move_145 30 tb_923 (by decide) (by decide) (Or.inl rfl) h0 rfl rfl (fun _ => by decide) (up h21 a0 30 (w32 ((h21 a0 30) + 1))) rfl ?_
            replace hf := hb_e hf
            generalize up h21 a0 30 (w32 ((h21 a0 30) + 1)) = h22 at hf ⊢
            refine p_aload_n dX11_move_148 rfl 0 rfl ?_
            refine p_get (c := 11) (vi (h22 a0 30)) dX11_move_149 30 tb_923 (by decide) (by decide) (Or.inl rfl) h0 rfl rfl ?_
            exact p_iret dX11_move_152 rfl (by decide) (by decide) (fun _ q => absurd q List.not_mem_nil) hf
          · replace hf := Eq.mp (if_neg hc) hf
            refine p_sub (ls' := []) [] rfl ?_
            exact t_X11_move_82 h0   _ hf
theorem ok_X11_move : mOK M_X11_move 4 := ⟨tb_1286, tb_9, by decide +kernel⟩
