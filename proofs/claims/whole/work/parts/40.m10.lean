abbrev M_X11_range : MD := (yX11_range, cX11_range, 13, some .int)
abbrev rm_X11_range : Room := { frames := 2, cells := 0, slots := 0, locals := 47 }
def w_X11_range_50 (K : Int → Hh → Prop) (a0 : Int) (h : Hh) : Prop := K (-1) h
set_option maxRecDepth 100000 in
set_option maxHeartbeats 4000000 in
theorem t_X11_range_50 {G : Gx} {n0 : Int} {K : Int → Hh → Prop} {a0 : Int} (h0 : 0 ≤ a0)  (h : Hh) (hf : w_X11_range_50 K  a0  h) : PW G M_X11_range rm_X11_range 0 0 [] n0 K 50 [] [] [] 0 0 h := by
  unfold w_X11_range_50 at hf
  refine p_iconst dX11_range_50 (by decide) ?_
  exact p_iret dX11_range_51 rfl (by decide) (by decide) (fun _ h => absurd h List.not_mem_nil) hf
def w_X11_range_133 (K : Int → Hh → Prop) (a0 : Int) (h : Hh) : Prop := K (-1) h
set_option maxRecDepth 100000 in
set_option maxHeartbeats 4000000 in
theorem t_X11_range_133 {G : Gx} {n0 : Int} {K : Int → Hh → Prop} {a0 : Int} (h0 : 0 ≤ a0)  (h : Hh) (hf : w_X11_range_133 K  a0  h) : PW G M_X11_range rm_X11_range 0 0 [] n0 K 133 [] [] [] 0 0 h := by
  unfold w_X11_range_133 at hf
  refine p_iconst dX11_range_133 (by decide) ?_
  exact p_iret dX11_range_134 rfl (by decide) (by decide) (fun _ h => absurd h List.not_mem_nil) hf
def w_X11_range_203 (K : Int → Hh → Prop) (B : Int → Int → Int → Int → Int → Int → Int → Hh → Prop) (X210 : Int → Int → Int → Hh → Prop) (a0 : Int) (v1 v2 v3 v4 v5 v6 v11 s0 s1 s2 s2n : Int) (h : Hh) : Prop := 0 ≤ s2 ∧ (((0 : Int) ≤ s1 ∧ (s1 : Int) < s2n) ∧ (hb (up h s2 s1 s0) fun h15 => vb (w32 (v11 + 1)) fun z16 => B v1 v2 v3 v4 v5 v6 z16 h15))
set_option maxRecDepth 100000 in
set_option maxHeartbeats 4000000 in
theorem t_X11_range_203 {G : Gx} {n0 : Int} {K : Int → Hh → Prop} {B : Int → Int → Int → Int → Int → Int → Int → Hh → Prop} {X210 : Int → Int → Int → Hh → Prop} {a0 : Int} (h0 : 0 ≤ a0) (hB : ∀ (v1 v2 v3 v4 v5 v6 v11 : Int) (h : Hh), B v1 v2 v3 v4 v5 v6 v11 h → PW G M_X11_range rm_X11_range 0 0 [] n0 K 138 [(0, vr 11 a0 0), (1, vi v1), (2, vi v2), (3, vi v3), (4, vi v4), (5, vi v5), (6, vi v6), (11, vi v11)] [] [] 0 0 h) (hX210 : ∀ (v1 v2 v5 : Int) (h : Hh), X210 v1 v2 v5 h → PW G M_X11_range rm_X11_range 0 0 [] n0 K 210 [(0, vr 11 a0 0), (1, vi v1), (2, vi v2), (5, vi v5)] [] [] 0 0 h)  (v1 v2 v3 v4 v5 v6 v11 s0 s1 s2 s2n : Int) (h : Hh) (hf : w_X11_range_203 K B X210 a0 v1 v2 v3 v4 v5 v6 v11 s0 s1 s2 s2n h) : PW G M_X11_range rm_X11_range 0 0 [] n0 K 203 [(0, vr 11 a0 0), (1, vi v1), (2, vi v2), (3, vi v3), (4, vi v4), (5, vi v5), (6, vi v6), (11, vi v11)] [vi s0, vi s1, vr 100 s2 s2n] [] 0 0 h := by
  unfold w_X11_range_203 at hf
  obtain ⟨c13, hf⟩ := hf
  obtain ⟨c14, hf⟩ := hf
  refine p_iast dX11_range_203 c13 c14 ?_
  replace hf := hb_e hf
  generalize up h s2 s1 s0 = h15 at hf ⊢
  refine p_iinc (ls' := [(11, vi (w32 (v11 + 1))), (0, vr 11 a0 0), (1, vi v1), (2, vi v2), (3, vi v3), (4, vi v4), (5, vi v5), (6, vi v6)]) dX11_range_204 7 rfl (by decide) rfl ?_
  replace hf := vb_e hf
  generalize w32 (v11 + 1) = z16 at hf ⊢
  refine p_goto (tgt := 138) dX11_range_207 (by decide) ?_
  refine p_sub (ls' := [(0, vr 11 a0 0), (1, vi v1), (2, vi v2), (3, vi v3), (4, vi v4), (5, vi v5), (6, vi v6), (11, vi z16)]) [1, 2, 3, 4, 5, 6, 7, 0] rfl ?_
  exact hB _ _ _ _ _ _ _ _ hf
def w_X11_range_138 (K : Int → Hh → Prop) (X210 : Int → Int → Int → Hh → Prop) (a0 : Int) : Nat → Int → Int → Int → Int → Int → Int → Int → Hh → Prop
  | 0, _, _, _, _, _, _, _, _ => False
  | n + 1, v1, v2, v3, v4, v5, v6, v11, h => if v11 ≥ v5 then (X210 v1 v2 v5 h) else (vb (w32 (v3 + (w32 (v11 * v4)))) fun z10 => if v6 ≠ 0 then (if v6 ≠ 1 then (w_X11_nearest 10000 z10 h (fun r11 h12 => w_X11_range_203 K (w_X11_range_138 K X210 a0 n) X210 a0 v1 v2 v3 v4 v5 v6 v11 (w32 r11) (w32 ((w32 (40 * (w32 ((w32 (5 * v1)) + v2)))) + v11)) (a0 + 10) 1200 h12)) else (w_X11_range_203 K (w_X11_range_138 K X210 a0 n) X210 a0 v1 v2 v3 v4 v5 v6 v11 (w32 (z10 * z10)) (w32 ((w32 (40 * (w32 ((w32 (5 * v1)) + v2)))) + v11)) (a0 + 10) 1200 h)) else (w_X11_range_203 K (w_X11_range_138 K X210 a0 n) X210 a0 v1 v2 v3 v4 v5 v6 v11 z10 (w32 ((w32 (40 * (w32 ((w32 (5 * v1)) + v2)))) + v11)) (a0 + 10) 1200 h))
set_option maxRecDepth 100000 in
set_option maxHeartbeats 4000000 in
theorem t_X11_range_138 {G : Gx} {n0 : Int} {K : Int → Hh → Prop} {X210 : Int → Int → Int → Hh → Prop} {a0 : Int} (h0 : 0 ≤ a0) (hX210 : ∀ (v1 v2 v5 : Int) (h : Hh), X210 v1 v2 v5 h → PW G M_X11_range rm_X11_range 0 0 [] n0 K 210 [(0, vr 11 a0 0), (1, vi v1), (2, vi v2), (5, vi v5)] [] [] 0 0 h) : ∀ (n : Nat) (v1 v2 v3 v4 v5 v6 v11 : Int) (h : Hh), w_X11_range_138 K X210 a0 n v1 v2 v3 v4 v5 v6 v11 h → PW G M_X11_range rm_X11_range 0 0 [] n0 K 138 [(0, vr 11 a0 0), (1, vi v1), (2, vi v2), (3, vi v3), (4, vi v4), (5, vi v5), (6, vi v6), (11, vi v11)] [] [] 0 0 h := by
  intro n
  induction n with
  | zero =>
    intro v1 v2 v3 v4 v5 v6 v11 h hf
    rw [w_X11_range_138] at hf
    exact hf.elim
  | succ n ih =>
    intro v1 v2 v3 v4 v5 v6 v11 h hf
    rw [w_X11_range_138] at hf
    refine p_iload dX11_range_138 7 rfl ?_
    refine p_iload dX11_range_140 5 rfl ?_
    refine p_icmp_ge (tgt := 210) (q := v11 ≥ v5) dX11_range_142 (by decide) Iff.rfl (fun hc => ?_) (fun hc => ?_)
    · replace hf := Eq.mp (if_pos hc) hf
      refine p_sub (ls' := [(0, vr 11 a0 0), (1, vi v1), (2, vi v2), (5, vi v5)]) [0, 1, 2, 5] rfl ?_
      exact hX210 _ _ _ _ hf
    · replace hf := Eq.mp (if_neg hc) hf
      refine p_iload_n dX11_range_145 rfl 3 rfl ?_
      refine p_iload dX11_range_146 7 rfl ?_
      refine p_iload dX11_range_148 4 rfl ?_
      refine p_imul dX11_range_150 ?_
      refine p_iadd dX11_range_151 ?_
      refine p_istore (ls' := [(12, vi (w32 (v3 + (w32 (v11 * v4))))), (0, vr 11 a0 0), (1, vi v1), (2, vi v2), (3, vi v3), (4, vi v4), (5, vi v5), (6, vi v6), (11, vi v11)]) dX11_range_152 (by decide) rfl ?_
      replace hf := vb_e hf
      generalize (w32 (v3 + (w32 (v11 * v4)))) = z10 at hf ⊢
      refine p_aload_n dX11_range_154 rfl 1 rfl ?_
      refine p_lay (c := 11) (tq := 100) (n := 1200) dX11_range_155 17 10 tb_910 (by decide) (by decide) h0 (by decide) (by decide) (fun _ => rfl) (vr 100 (a0 + 10) 1200) rfl ?_
      refine p_bipush dX11_range_158 (by decide) (by decide) ?_
      refine p_iconst dX11_range_160 (by decide) ?_
      refine p_iload_n dX11_range_161 rfl 2 rfl ?_
      refine p_imul dX11_range_162 ?_
      refine p_iload_n dX11_range_163 rfl 3 rfl ?_
      refine p_iadd dX11_range_164 ?_
      refine p_imul dX11_range_165 ?_
      refine p_iload dX11_range_166 8 rfl ?_
      refine p_iadd dX11_range_168 ?_
      refine p_iload dX11_range_169 7 rfl ?_
      refine p_if_ne (tgt := 179) (q := v6 ≠ 0) dX11_range_171 (by decide) Iff.rfl (fun hc => ?_) (fun hc => ?_)
      · replace hf := Eq.mp (if_pos hc) hf
        refine p_iload dX11_range_179 7 rfl ?_
        refine p_iconst dX11_range_181 (by decide) ?_
        refine p_icmp_ne (tgt := 193) (q := v6 ≠ 1) dX11_range_182 (by decide) Iff.rfl (fun hc => ?_) (fun hc => ?_)
        · replace hf := Eq.mp (if_pos hc) hf
          refine p_ldc2 (z := 10000) dX11_range_193 tb_1137 (by decide) ?_
          refine p_iload dX11_range_196 0 rfl ?_
          refine p_i2l dX11_range_198 ?_
          refine p_callSl dX11_range_199 M_X11_nearest rfl [vl 10000, vl z10] (t_X11_nearest _ _ _ _ hf) ok_X11_nearest rfl tb_1138 tb_1139 rfl (Nat.le_of_ble_eq_true rfl) ⟨rfl, rfl⟩ ⟨by decide, by decide⟩ ⟨by decide, by decide⟩ (fun r11 h12 hf => ?_)
          refine p_l2i dX11_range_202 ?_
          refine p_sub (ls' := [(0, vr 11 a0 0), (1, vi v1), (2, vi v2), (3, vi v3), (4, vi v4), (5, vi v5), (6, vi v6), (11, vi v11)]) [1, 2, 3, 4, 5, 6, 7, 8] rfl ?_
          exact t_X11_range_203 h0 ih hX210 _ _ _ _ _ _ _ _ _ _ _ _ hf
        · replace hf := Eq.mp (if_neg hc) hf
          refine p_iload dX11_range_185 0 rfl ?_
          refine p_iload dX11_range_187 0 rfl ?_
          refine p_imul dX11_range_189 ?_
          refine p_goto (tgt := 203) dX11_range_190 (by decide) ?_
          refine p_sub (ls' := [(0, vr 11 a0 0), (1, vi v1), (2, vi v2), (3, vi v3), (4, vi v4), (5, vi v5), (6, vi v6), (11, vi v11)]) [1, 2, 3, 4, 5, 6, 7, 8] rfl ?_
          exact t_X11_range_203 h0 ih hX210 _ _ _ _ _ _ _ _ _ _ _ _ hf
      · replace hf := Eq.mp (if_neg hc) hf
        refine p_iload dX11_range_174 0 rfl ?_
        refine p_goto (tgt := 203) dX11_range_176 (by decide) ?_
        refine p_sub (ls' := [(0, vr 11 a0 0), (1, vi v1), (2, vi v2), (3, vi v3), (4, vi v4), (5, vi v5), (6, vi v6), (11, vi v11)]) [1, 2, 3, 4, 5, 6, 7, 8] rfl ?_
        exact t_X11_range_203 h0 ih hX210 _ _ _ _ _ _ _ _ _ _ _ _ hf
def w_X11_range_116 (K : Int → Hh → Prop) (a0 : Int) (v1 v2 v3 v4 v5 v6 v7 v9 s0 : Int) (h : Hh) : Prop := if v3 < v9 then (w_X11_range_133 K  a0  h) else (if v7 ≤ s0 then (w_X11_range_138 K (fun u18 u19 u20 h17 => ((0 : Int) ≤ w32 ((w32 (5 * u18)) + u19) ∧ (w32 ((w32 (5 * u18)) + u19) : Int) < 30) ∧ (hb (up h17 (a0 + 9) (w32 ((w32 (5 * u18)) + u19)) u20) fun h22 => K u20 h22)) a0 NF v1 v2 v3 v4 v5 v6 0 h) else (w_X11_range_133 K  a0  h))
set_option maxRecDepth 100000 in
set_option maxHeartbeats 4000000 in
theorem t_X11_range_116 {G : Gx} {n0 : Int} {K : Int → Hh → Prop} {a0 : Int} (h0 : 0 ≤ a0)  (v1 v2 v3 v4 v5 v6 v7 v9 s0 : Int) (h : Hh) (hf : w_X11_range_116 K  a0 v1 v2 v3 v4 v5 v6 v7 v9 s0 h) : PW G M_X11_range rm_X11_range 0 0 [] n0 K 116 [(0, vr 11 a0 0), (1, vi v1), (2, vi v2), (3, vi v3), (4, vi v4), (5, vi v5), (6, vi v6), (7, vl v7), (9, vi v9)] [vi s0] [] 0 0 h := by
  unfold w_X11_range_116 at hf
  refine p_istore (ls' := [(10, vi s0), (0, vr 11 a0 0), (1, vi v1), (2, vi v2), (3, vi v3), (4, vi v4), (5, vi v5), (6, vi v6), (7, vl v7), (9, vi v9)]) dX11_range_116 (by decide) rfl ?_
  refine p_iload_n dX11_range_118 rfl 4 rfl ?_
  refine p_iload dX11_range_119 9 rfl ?_
  refine p_icmp_lt (tgt := 133) (q := v3 < v9) dX11_range_121 (by decide) Iff.rfl (fun hc => ?_) (fun hc => ?_)
  · replace hf := Eq.mp (if_pos hc) hf
    refine p_sub (ls' := []) [] rfl ?_
    exact t_X11_range_133 h0   _ hf
  · replace hf := Eq.mp (if_neg hc) hf
    refine p_lload dX11_range_124 8 rfl ?_
    refine p_iload dX11_range_126 0 rfl ?_
    refine p_i2l dX11_range_128 ?_
    refine p_lcmp (z := (if v7 < s0 then (-1) else if v7 = s0 then 0 else 1)) dX11_range_129 rfl ?_
    refine p_if_le (tgt := 135) (q := v7 ≤ s0) dX11_range_130 (by decide) (lc_le v7 s0) (fun hc => ?_) (fun hc => ?_)
    · replace hf := Eq.mp (if_pos hc) hf
      refine p_iconst dX11_range_135 (by decide) ?_
      refine p_istore (ls' := [(11, vi 0), (10, vi s0), (0, vr 11 a0 0), (1, vi v1), (2, vi v2), (3, vi v3), (4, vi v4), (5, vi v5), (6, vi v6), (7, vl v7), (9, vi v9)]) dX11_range_136 (by decide) rfl ?_
      refine p_sub (ls' := [(0, vr 11 a0 0), (1, vi v1), (2, vi v2), (3, vi v3), (4, vi v4), (5, vi v5), (6, vi v6), (11, vi 0)]) [2, 3, 4, 5, 6, 7, 8, 0] rfl ?_
      refine t_X11_range_138 h0 ?_ NF _ _ _ _ _ _ _ _ hf
      · intro u18 u19 u20 h17 hf
        refine p_aload_n dX11_range_210 rfl 0 rfl ?_
        refine p_lay (c := 11) (tq := 100) (n := 30) dX11_range_211 16 9 tb_909 (by decide) (by decide) h0 (by decide) (by decide) (fun _ => rfl) (vr 100 (a0 + 9) 30) rfl ?_
        refine p_iconst dX11_range_214 (by decide) ?_
        refine p_iload_n dX11_range_215 rfl 1 rfl ?_
        refine p_imul dX11_range_216 ?_
        refine p_iload_n dX11_range_217 rfl 2 rfl ?_
        refine p_iadd dX11_range_218 ?_
        refine p_iload dX11_range_219 3 rfl ?_
        obtain ⟨c21, hf⟩ := hf
        refine p_iast dX11_range_221 (nnk h0 (by decide)) c21 ?_
        replace hf := hb_e hf
        generalize up h17 (a0 + 9) (w32 ((w32 (5 * u18)) + u19)) u20 = h22 at hf ⊢
        refine p_iload dX11_range_222 3 rfl ?_
        exact p_iret dX11_range_224 rfl (by decide) (by decide) (fun _ h => absurd h List.not_mem_nil) hf
    · replace hf := Eq.mp (if_neg hc) hf
      refine p_sub (ls' := []) [] rfl ?_
      exact t_X11_range_133 h0   _ hf
def w_X11_range_100 (K : Int → Hh → Prop) (a0 : Int) (v1 v2 v3 v4 v5 v6 v7 s0 : Int) (h : Hh) : Prop := if v6 ≠ 1 then (w_X11_range_116 K  a0 v1 v2 v3 v4 v5 v6 v7 s0 999 h) else (w_X11_range_116 K  a0 v1 v2 v3 v4 v5 v6 v7 s0 99 h)
set_option maxRecDepth 100000 in
set_option maxHeartbeats 4000000 in
theorem t_X11_range_100 {G : Gx} {n0 : Int} {K : Int → Hh → Prop} {a0 : Int} (h0 : 0 ≤ a0)  (v1 v2 v3 v4 v5 v6 v7 s0 : Int) (h : Hh) (hf : w_X11_range_100 K  a0 v1 v2 v3 v4 v5 v6 v7 s0 h) : PW G M_X11_range rm_X11_range 0 0 [] n0 K 100 [(0, vr 11 a0 0), (1, vi v1), (2, vi v2), (3, vi v3), (4, vi v4), (5, vi v5), (6, vi v6), (7, vl v7)] [vi s0] [] 0 0 h := by
  unfold w_X11_range_100 at hf
  refine p_istore (ls' := [(9, vi s0), (0, vr 11 a0 0), (1, vi v1), (2, vi v2), (3, vi v3), (4, vi v4), (5, vi v5), (6, vi v6), (7, vl v7)]) dX11_range_100 (by decide) rfl ?_
  refine p_iload dX11_range_102 7 rfl ?_
  refine p_iconst dX11_range_104 (by decide) ?_
  refine p_icmp_ne (tgt := 113) (q := v6 ≠ 1) dX11_range_105 (by decide) Iff.rfl (fun hc => ?_) (fun hc => ?_)
  · replace hf := Eq.mp (if_pos hc) hf
    refine p_sipush dX11_range_113 (by decide) (by decide) ?_
    refine p_sub (ls' := [(0, vr 11 a0 0), (1, vi v1), (2, vi v2), (3, vi v3), (4, vi v4), (5, vi v5), (6, vi v6), (7, vl v7), (9, vi s0)]) [1, 2, 3, 4, 5, 6, 7, 8, 0] rfl ?_
    exact t_X11_range_116 h0  _ _ _ _ _ _ _ _ _ _ hf
  · replace hf := Eq.mp (if_neg hc) hf
    refine p_bipush dX11_range_108 (by decide) (by decide) ?_
    refine p_goto (tgt := 116) dX11_range_110 (by decide) ?_
    refine p_sub (ls' := [(0, vr 11 a0 0), (1, vi v1), (2, vi v2), (3, vi v3), (4, vi v4), (5, vi v5), (6, vi v6), (7, vl v7), (9, vi s0)]) [1, 2, 3, 4, 5, 6, 7, 8, 0] rfl ?_
    exact t_X11_range_116 h0  _ _ _ _ _ _ _ _ _ _ hf
def w_X11_range (a0 x1 x2 x3 x4 x5 : Int) (h : Hh) (K : Int → Hh → Prop) : Prop := w_X11_isTerm a0 x1 x2 h (fun r1 h2 => if r1 = 0 then (w_X11_range_50 K  a0  h2) else (((0 : Int) ≤ w32 ((w32 (5 * x1)) + x2) ∧ (w32 ((w32 (5 * x1)) + x2) : Int) < 30) ∧ (if h2 (a0 + 9) (w32 ((w32 (5 * x1)) + x2)) > 0 then (w_X11_range_50 K  a0  h2) else (w_X11_in x4 1 500 h2 (fun r4 h5 => if r4 = 0 then (w_X11_range_50 K  a0  h5) else (w_X11_in x5 2 40 h5 (fun r6 h7 => if r6 ≠ 0 then (vb (h7 (a0 + 7) (w32 ((w32 (5 * x1)) + x2))) fun z8 => vb (w64 (x3 + (w64 (x4 * (w32 (x5 - 1)))))) fun z9 => if z8 ≠ 0 then (if z8 ≠ 1 then (w_X11_range_100 K  a0 x1 x2 x3 x4 x5 z8 z9 1 h7) else (w_X11_range_100 K  a0 x1 x2 x3 x4 x5 z8 z9 0 h7)) else (w_X11_range_100 K  a0 x1 x2 x3 x4 x5 z8 z9 (-999) h7)) else (w_X11_range_50 K  a0  h7))))))))
set_option maxRecDepth 100000 in
set_option maxHeartbeats 4000000 in
theorem t_X11_range {G : Gx} (a0 x1 x2 x3 x4 x5 : Int) (h : Hh) (K : Int → Hh → Prop) (h0 : 0 ≤ a0) (hf : w_X11_range a0 x1 x2 x3 x4 x5 h K) : CT G M_X11_range rm_X11_range 0 0 [] [vr 11 a0 0, vi x1, vi x2, vi x3, vi x4, vi x5] h K := by
  unfold w_X11_range at hf
  refine CT.of (ls0 := [(0, vr 11 a0 0), (1, vi x1), (2, vi x2), (3, vi x3), (4, vi x4), (5, vi x5)]) (plainFor_of_name (by decide +kernel)) (by decide +kernel) (Nat.le_of_ble_eq_true rfl) rfl rfl ?_
  refine p_aload_n dX11_range_0 rfl 0 rfl ?_
  refine p_iload_n dX11_range_1 rfl 1 rfl ?_
  refine p_iload_n dX11_range_2 rfl 2 rfl ?_
  refine p_callVi dX11_range_3 M_X11_isTerm (Or.inr rfl) [vi x1, vi x2] (t_X11_isTerm _ _ _ _ _ h0 hf) ok_X11_isTerm rfl (c := 11) (by decide) h0 rfl tb_1126 ⟨tb_1128, ts_79⟩ rfl (Nat.le_of_ble_eq_true rfl) ⟨rfl, rfl⟩ ⟨by decide, by decide⟩ ⟨by decide, by decide⟩ (fun r1 h2 hf => ?_)
  refine p_if_eq (tgt := 50) (q := r1 = 0) dX11_range_6 (by decide) Iff.rfl (fun hc => ?_) (fun hc => ?_)
  · replace hf := Eq.mp (if_pos hc) hf
    refine p_sub (ls' := []) [] rfl ?_
    exact t_X11_range_50 h0   _ hf
  · replace hf := Eq.mp (if_neg hc) hf
    refine p_aload_n dX11_range_9 rfl 0 rfl ?_
    refine p_lay (c := 11) (tq := 100) (n := 30) dX11_range_10 16 9 tb_909 (by decide) (by decide) h0 (by decide) (by decide) (fun _ => rfl) (vr 100 (a0 + 9) 30) rfl ?_
    refine p_iconst dX11_range_13 (by decide) ?_
    refine p_iload_n dX11_range_14 rfl 1 rfl ?_
    refine p_imul dX11_range_15 ?_
    refine p_iload_n dX11_range_16 rfl 2 rfl ?_
    refine p_iadd dX11_range_17 ?_
    obtain ⟨c3, hf⟩ := hf
    refine p_iald dX11_range_18 (nnk h0 (by decide)) c3 ?_
    refine p_if_gt (tgt := 50) (q := h2 (a0 + 9) (w32 ((w32 (5 * x1)) + x2)) > 0) dX11_range_19 (by decide) Iff.rfl (fun hc => ?_) (fun hc => ?_)
    · replace hf := Eq.mp (if_pos hc) hf
      refine p_sub (ls' := []) [] rfl ?_
      exact t_X11_range_50 h0   _ hf
    · replace hf := Eq.mp (if_neg hc) hf
      refine p_iload dX11_range_22 4 rfl ?_
      refine p_i2l dX11_range_24 ?_
      refine p_lconst (z := 1) dX11_range_25 rfl ?_
      refine p_ldc2 (z := 500) dX11_range_26 tb_1134 (by decide) ?_
      refine p_callSi dX11_range_29 M_X11_in (Or.inr rfl) [vl x4, vl 1, vl 500] (t_X11_in _ _ _ _ _ hf) ok_X11_in rfl tb_1079 tb_1080 rfl (Nat.le_of_ble_eq_true rfl) ⟨rfl, rfl⟩ ⟨by decide, by decide⟩ ⟨by decide, by decide⟩ (fun r4 h5 hf => ?_)
      refine p_if_eq (tgt := 50) (q := r4 = 0) dX11_range_32 (by decide) Iff.rfl (fun hc => ?_) (fun hc => ?_)
      · replace hf := Eq.mp (if_pos hc) hf
        refine p_sub (ls' := []) [] rfl ?_
        exact t_X11_range_50 h0   _ hf
      · replace hf := Eq.mp (if_neg hc) hf
        refine p_iload dX11_range_35 5 rfl ?_
        refine p_i2l dX11_range_37 ?_
        refine p_ldc2 (z := 2) dX11_range_38 tb_1135 (by decide) ?_
        refine p_ldc2 (z := 40) dX11_range_41 tb_1136 (by decide) ?_
        refine p_callSi dX11_range_44 M_X11_in (Or.inr rfl) [vl x5, vl 2, vl 40] (t_X11_in _ _ _ _ _ hf) ok_X11_in rfl tb_1079 tb_1080 rfl (Nat.le_of_ble_eq_true rfl) ⟨rfl, rfl⟩ ⟨by decide, by decide⟩ ⟨by decide, by decide⟩ (fun r6 h7 hf => ?_)
        refine p_if_ne (tgt := 52) (q := r6 ≠ 0) dX11_range_47 (by decide) Iff.rfl (fun hc => ?_) (fun hc => ?_)
        · replace hf := Eq.mp (if_pos hc) hf
          refine p_aload_n dX11_range_52 rfl 0 rfl ?_
          refine p_lay (c := 11) (tq := 100) (n := 30) dX11_range_53 14 7 tb_907 (by decide) (by decide) h0 (by decide) (by decide) (fun _ => rfl) (vr 100 (a0 + 7) 30) rfl ?_
          refine p_iconst dX11_range_56 (by decide) ?_
          refine p_iload_n dX11_range_57 rfl 1 rfl ?_
          refine p_imul dX11_range_58 ?_
          refine p_iload_n dX11_range_59 rfl 2 rfl ?_
          refine p_iadd dX11_range_60 ?_
          refine p_iald dX11_range_61 (nnk h0 (by decide)) c3 ?_
          refine p_istore (ls' := [(6, vi (h7 (a0 + 7) (w32 ((w32 (5 * x1)) + x2)))), (0, vr 11 a0 0), (1, vi x1), (2, vi x2), (3, vi x3), (4, vi x4), (5, vi x5)]) dX11_range_62 (by decide) rfl ?_
          replace hf := vb_e hf
          generalize (h7 (a0 + 7) (w32 ((w32 (5 * x1)) + x2))) = z8 at hf ⊢
          refine p_iload_n dX11_range_64 rfl 4 rfl ?_
          refine p_i2l dX11_range_65 ?_
          refine p_iload dX11_range_66 5 rfl ?_
          refine p_i2l dX11_range_68 ?_
          refine p_iload dX11_range_69 6 rfl ?_
          refine p_iconst dX11_range_71 (by decide) ?_
          refine p_isub dX11_range_72 ?_
          refine p_i2l dX11_range_73 ?_
          refine p_lmul dX11_range_74 ?_
          refine p_ladd dX11_range_75 ?_
          refine p_lstore (ls' := [(7, vl (w64 (x3 + (w64 (x4 * (w32 (x5 - 1))))))), (6, vi z8), (0, vr 11 a0 0), (1, vi x1), (2, vi x2), (3, vi x3), (4, vi x4), (5, vi x5)]) dX11_range_76 (by decide) rfl ?_
          replace hf := vb_e hf
          generalize (w64 (x3 + (w64 (x4 * (w32 (x5 - 1)))))) = z9 at hf ⊢
          refine p_iload dX11_range_78 1 rfl ?_
          refine p_if_ne (tgt := 89) (q := z8 ≠ 0) dX11_range_80 (by decide) Iff.rfl (fun hc => ?_) (fun hc => ?_)
          · replace hf := Eq.mp (if_pos hc) hf
            refine p_iload dX11_range_89 1 rfl ?_
            refine p_iconst dX11_range_91 (by decide) ?_
            refine p_icmp_ne (tgt := 99) (q := z8 ≠ 1) dX11_range_92 (by decide) Iff.rfl (fun hc => ?_) (fun hc => ?_)
            · replace hf := Eq.mp (if_pos hc) hf
              refine p_iconst dX11_range_99 (by decide) ?_
              refine p_sub (ls' := [(0, vr 11 a0 0), (1, vi x1), (2, vi x2), (3, vi x3), (4, vi x4), (5, vi x5), (6, vi z8), (7, vl z9)]) [2, 3, 4, 5, 6, 7, 1, 0] rfl ?_
              exact t_X11_range_100 h0  _ _ _ _ _ _ _ _ _ hf
            · replace hf := Eq.mp (if_neg hc) hf
              refine p_iconst dX11_range_95 (by decide) ?_
              refine p_goto (tgt := 100) dX11_range_96 (by decide) ?_
              refine p_sub (ls' := [(0, vr 11 a0 0), (1, vi x1), (2, vi x2), (3, vi x3), (4, vi x4), (5, vi x5), (6, vi z8), (7, vl z9)]) [2, 3, 4, 5, 6, 7, 1, 0] rfl ?_
              exact t_X11_range_100 h0  _ _ _ _ _ _ _ _ _ hf
          · replace hf := Eq.mp (if_neg hc) hf
            refine p_sipush dX11_range_83 (by decide) (by decide) ?_
            refine p_goto (tgt := 100) dX11_range_86 (by decide) ?_
            refine p_sub (ls' := [(0, vr 11 a0 0), (1, vi x1), (2, vi x2), (3, vi x3), (4, vi x4), (5, vi x5), (6, vi z8), (7, vl z9)]) [2, 3, 4, 5, 6, 7, 1, 0] rfl ?_
            exact t_X11_range_100 h0  _ _ _ _ _ _ _ _ _ hf
        · replace hf := Eq.mp (if_neg hc) hf
          refine p_sub (ls' := []) [] rfl ?_
          exact t_X11_range_50 h0   _ hf
theorem ok_X11_range : mOK M_X11_range 5 := ⟨tb_1133, tb_9, by decide +kernel⟩
abbrev M_X11_valueOf : MD := (yX11_valueOf, cX11_valueOf, 4, some .int)
abbrev rm_X11_valueOf : Room := { frames := 0, cells := 0, slots := 0, locals := 0 }
def w_X11_valueOf (a0 x1 x2 x3 : Int) (h : Hh) (K : Int → Hh → Prop) : Prop := ((0 : Int) ≤ w32 ((w32 (40 * (w32 ((w32 (5 * x1)) + x2)))) + x3) ∧ (w32 ((w32 (40 * (w32 ((w32 (5 * x1)) + x2)))) + x3) : Int) < 1200) ∧ (K (h (a0 + 10) (w32 ((w32 (40 * (w32 ((w32 (5 * x1)) + x2)))) + x3))) h)
set_option maxRecDepth 100000 in
set_option maxHeartbeats 4000000 in
theorem t_X11_valueOf {G : Gx} (a0 x1 x2 x3 : Int) (h : Hh) (K : Int → Hh → Prop) (h0 : 0 ≤ a0) (hf : w_X11_valueOf a0 x1 x2 x3 h K) : CT G M_X11_valueOf rm_X11_valueOf 0 0 [] [vr 11 a0 0, vi x1, vi x2, vi x3] h K := by
  unfold w_X11_valueOf at hf
  refine CT.of (ls0 := [(0, vr 11 a0 0), (1, vi x1), (2, vi x2), (3, vi x3)]) (plainFor_of_name (by decide +kernel)) (by decide +kernel) (Nat.le_of_ble_eq_true rfl) rfl rfl ?_
  refine p_aload_n dX11_valueOf_0 rfl 0 rfl ?_
  refine p_lay (c := 11) (tq := 100) (n := 1200) dX11_valueOf_1 17 10 tb_910 (by decide) (by decide) h0 (by decide) (by decide) (fun _ => rfl) (vr 100 (a0 + 10) 1200) rfl ?_
  refine p_bipush dX11_valueOf_4 (by decide) (by decide) ?_
  refine p_iconst dX11_valueOf_6 (by decide) ?_
  refine p_iload_n dX11_valueOf_7 rfl 1 rfl ?_
  refine p_imul dX11_valueOf_8 ?_
  refine p_iload_n dX11_valueOf_9 rfl 2 rfl ?_
  refine p_iadd dX11_valueOf_10 ?_
  refine p_imul dX11_valueOf_11 ?_
  refine p_iload_n dX11_valueOf_12 rfl 3 rfl ?_
  refine p_iadd dX11_valueOf_13 ?_
  obtain ⟨c1, hf⟩ := hf
  refine p_iald dX11_valueOf_14 (nnk h0 (by decide)) c1 ?_
  exact p_iret dX11_valueOf_15 rfl (by decide) (by decide) (fun _ h => absurd h List.not_mem_nil) hf
theorem ok_X11_valueOf : mOK M_X11_valueOf 3 := ⟨tb_1151, tb_9, by decide +kernel⟩
abbrev M_X11_mark : MD := (yX11_mark, cX11_mark, 4, some .int)
abbrev rm_X11_mark : Room := { frames := 2, cells := 0, slots := 0, locals := 47 }
def w_X11_mark_43 (K : Int → Hh → Prop) (a0 : Int) (s0 : Int) (h : Hh) : Prop := K s0 h
set_option maxRecDepth 100000 in
set_option maxHeartbeats 4000000 in
theorem t_X11_mark_43 {G : Gx} {n0 : Int} {K : Int → Hh → Prop} {a0 : Int} (h0 : 0 ≤ a0)  (s0 : Int) (h : Hh) (hf : w_X11_mark_43 K  a0 s0 h) : PW G M_X11_mark rm_X11_mark 0 0 [] n0 K 43 [] [vi s0] [] 0 0 h := by
  unfold w_X11_mark_43 at hf
  exact p_iret dX11_mark_43 rfl (by decide) (by decide) (fun _ h => absurd h List.not_mem_nil) hf
def w_X11_mark_41 (K : Int → Hh → Prop) (a0 : Int) (h : Hh) : Prop := w_X11_mark_43 K  a0 (-2147483648) h
set_option maxRecDepth 100000 in
set_option maxHeartbeats 4000000 in
theorem t_X11_mark_41 {G : Gx} {n0 : Int} {K : Int → Hh → Prop} {a0 : Int} (h0 : 0 ≤ a0)  (h : Hh) (hf : w_X11_mark_41 K  a0  h) : PW G M_X11_mark rm_X11_mark 0 0 [] n0 K 41 [] [] [] 0 0 h := by
  unfold w_X11_mark_41 at hf
  refine p_ldc (z := (-2147483648)) dX11_mark_41 tb_1123 (by decide) ?_
  exact t_X11_mark_43 h0  _ _ hf
def w_X11_mark (a0 x1 x2 x3 : Int) (h : Hh) (K : Int → Hh → Prop) : Prop := w_X11_isTerm a0 x1 x2 h (fun r1 h2 => if r1 = 0 then (w_X11_mark_41 K  a0  h2) else (((0 : Int) ≤ w32 ((w32 (5 * x1)) + x2) ∧ (w32 ((w32 (5 * x1)) + x2) : Int) < 30) ∧ (w_X11_in x3 0 (w32 ((h2 (a0 + 9) (w32 ((w32 (5 * x1)) + x2))) - 1)) h2 (fun r4 h5 => if r4 = 0 then (w_X11_mark_41 K  a0  h5) else (w_X11_valueOf a0 x1 x2 x3 h5 (fun r6 h7 => w_X11_mark_43 K  a0 r6 h7))))))
set_option maxRecDepth 100000 in
set_option maxHeartbeats 4000000 in
theorem t_X11_mark {G : Gx} (a0 x1 x2 x3 : Int) (h : Hh) (K : Int → Hh → Prop) (h0 : 0 ≤ a0) (hf : w_X11_mark a0 x1 x2 x3 h K) : CT G M_X11_mark rm_X11_mark 0 0 [] [vr 11 a0 0, vi x1, vi x2, vi x3] h K := by
  unfold w_X11_mark at hf
  refine CT.of (ls0 := [(0, vr 11 a0 0), (1, vi x1), (2, vi x2), (3, vi x3)]) (plainFor_of_name (by decide +kernel)) (by decide +kernel) (Nat.le_of_ble_eq_true rfl) rfl rfl ?_
  refine p_aload_n dX11_mark_0 rfl 0 rfl ?_
  refine p_iload_n dX11_mark_1 rfl 1 rfl ?_
  refine p_iload_n dX11_mark_2 rfl 2 rfl ?_
  refine p_callVi dX11_mark_3 M_X11_isTerm (Or.inr rfl) [vi x1, vi x2] (t_X11_isTerm _ _ _ _ _ h0 hf) ok_X11_isTerm rfl (c := 11) (by decide) h0 rfl tb_1126 ⟨tb_1128, ts_79⟩ rfl (Nat.le_of_ble_eq_true rfl) ⟨rfl, rfl⟩ ⟨by decide, by decide⟩ ⟨by decide, by decide⟩ (fun r1 h2 hf => ?_)
  refine p_if_eq (tgt := 41) (q := r1 = 0) dX11_mark_6 (by decide) Iff.rfl (fun hc => ?_) (fun hc => ?_)
  · replace hf := Eq.mp (if_pos hc) hf
    refine p_sub (ls' := []) [] rfl ?_
    exact t_X11_mark_41 h0   _ hf
  · replace hf := Eq.mp (if_neg hc) hf
    refine p_iload_n dX11_mark_9 rfl 3 rfl ?_
    refine p_i2l dX11_mark_10 ?_
    refine p_lconst (z := 0) dX11_mark_11 rfl ?_
    refine p_aload_n dX11_mark_12 rfl 0 rfl ?_
    refine p_lay (c := 11) (tq := 100) (n := 30) dX11_mark_13 16 9 tb_909 (by decide) (by decide) h0 (by decide) (by decide) (fun _ => rfl) (vr 100 (a0 + 9) 30) rfl ?_
    refine p_iconst dX11_mark_16 (by decide) ?_
    refine p_iload_n dX11_mark_17 rfl 1 rfl ?_
    refine p_imul dX11_mark_18 ?_
    refine p_iload_n dX11_mark_19 rfl 2 rfl ?_
    refine p_iadd dX11_mark_20 ?_
    obtain ⟨c3, hf⟩ := hf
    refine p_iald dX11_mark_21 (nnk h0 (by decide)) c3 ?_
    refine p_iconst dX11_mark_22 (by decide) ?_
    refine p_isub dX11_mark_23 ?_
    refine p_i2l dX11_mark_24 ?_
    refine p_callSi dX11_mark_25 M_X11_in (Or.inr rfl) [vl x3, vl 0, vl (w32 ((h2 (a0 + 9) (w32 ((w32 (5 * x1)) + x2))) - 1))] (t_X11_in _ _ _ _ _ hf) ok_X11_in rfl tb_1079 tb_1080 rfl (Nat.le_of_ble_eq_true rfl) ⟨rfl, rfl⟩ ⟨by decide, by decide⟩ ⟨by decide, by decide⟩ (fun r4 h5 hf => ?_)
    refine p_if_eq (tgt := 41) (q := r4 = 0) dX11_mark_28 (by decide) Iff.rfl (fun hc => ?_) (fun hc => ?_)
    · replace hf := Eq.mp (if_pos hc) hf
      refine p_sub (ls' := []) [] rfl ?_
      exact t_X11_mark_41 h0   _ hf
    · replace hf := Eq.mp (if_neg hc) hf
      refine p_aload_n dX11_mark_31 rfl 0 rfl ?_
      refine p_iload_n dX11_mark_32 rfl 1 rfl ?_
      refine p_iload_n dX11_mark_33 rfl 2 rfl ?_
      refine p_iload_n dX11_mark_34 rfl 3 rfl ?_
      refine p_callVi dX11_mark_35 M_X11_valueOf (Or.inl rfl) [vi x1, vi x2, vi x3] (t_X11_valueOf _ _ _ _ _ _ h0 hf) ok_X11_valueOf rfl (c := 11) (by decide) h0 rfl tb_1148 ⟨tb_1150, ts_80⟩ rfl (Nat.le_of_ble_eq_true rfl) ⟨rfl, rfl⟩ ⟨by decide, by decide⟩ ⟨by decide, by decide⟩ (fun r6 h7 hf => ?_)
      refine p_goto (tgt := 43) dX11_mark_38 (by decide) ?_
      refine p_sub (ls' := []) [] rfl ?_
      exact t_X11_mark_43 h0  _ _ hf
theorem ok_X11_mark : mOK M_X11_mark 3 := ⟨tb_1147, tb_9, by decide +kernel⟩
abbrev M_X11_isChart : MD := (yX11_isChart, cX11_isChart, 2, some .boolean)
abbrev rm_X11_isChart : Room := { frames := 1, cells := 0, slots := 0, locals := 25 }
def w_X11_isChart (a0 x1 : Int) (h : Hh) (K : Int → Hh → Prop) : Prop := w_X11_in x1 0 (w32 ((h a0 18) - 1)) h (fun r1 h2 => (r1 = 0 ∨ r1 = 1) ∧ (K r1 h2))
set_option maxRecDepth 100000 in
set_option maxHeartbeats 4000000 in
theorem t_X11_isChart {G : Gx} (a0 x1 : Int) (h : Hh) (K : Int → Hh → Prop) (h0 : 0 ≤ a0) (hf : w_X11_isChart a0 x1 h K) : CT G M_X11_isChart rm_X11_isChart 0 0 [] [vr 11 a0 0, vi x1] h K := by
  unfold w_X11_isChart at hf
  refine CT.of (ls0 := [(0, vr 11 a0 0), (1, vi x1)]) (plainFor_of_name (by decide +kernel)) (by decide +kernel) (Nat.le_of_ble_eq_true rfl) rfl rfl ?_
  refine p_iload_n dX11_isChart_0 rfl 1 rfl ?_
  refine p_i2l dX11_isChart_1 ?_
  refine p_lconst (z := 0) dX11_isChart_2 rfl ?_
  refine p_aload_n dX11_isChart_3 rfl 0 rfl ?_
  refine p_get (c := 11) (vi (h a0 18)) dX11_isChart_4 18 tb_911 (by decide) (by decide) (Or.inl rfl) h0 rfl rfl ?_
  refine p_iconst dX11_isChart_7 (by decide) ?_
  refine p_isub dX11_isChart_8 ?_
  refine p_i2l dX11_isChart_9 ?_
  refine p_callSi dX11_isChart_10 M_X11_in (Or.inr rfl) [vl x1, vl 0, vl (w32 ((h a0 18) - 1))] (t_X11_in _ _ _ _ _ hf) ok_X11_in rfl tb_1079 tb_1080 rfl (Nat.le_of_ble_eq_true rfl) ⟨rfl, rfl⟩ ⟨by decide, by decide⟩ ⟨by decide, by decide⟩ (fun r1 h2 hf => ?_)
  obtain ⟨c3, hf⟩ := hf
  exact p_zret dX11_isChart_13 rfl (by decide) (by decide) (fun _ h => absurd h List.not_mem_nil) c3 hf
theorem ok_X11_isChart : mOK M_X11_isChart 1 := ⟨tb_1168, tb_9, by decide +kernel⟩
abbrev M_X11_pagesOf : MD := (yX11_pagesOf, cX11_pagesOf, 2, some .int)
abbrev rm_X11_pagesOf : Room := { frames := 0, cells := 0, slots := 0, locals := 0 }
def w_X11_pagesOf (a0 x1 : Int) (h : Hh) (K : Int → Hh → Prop) : Prop := ((0 : Int) ≤ x1 ∧ (x1 : Int) < 6) ∧ (((0 : Int) ≤ h (a0 + 11) x1 ∧ (h (a0 + 11) x1 : Int) < 6) ∧ (K (w32 ((h (a0 + 5) (h (a0 + 11) x1)) - 2)) h))
set_option maxRecDepth 100000 in
set_option maxHeartbeats 4000000 in
theorem t_X11_pagesOf {G : Gx} (a0 x1 : Int) (h : Hh) (K : Int → Hh → Prop) (h0 : 0 ≤ a0) (hf : w_X11_pagesOf a0 x1 h K) : CT G M_X11_pagesOf rm_X11_pagesOf 0 0 [] [vr 11 a0 0, vi x1] h K := by
  unfold w_X11_pagesOf at hf
  refine CT.of (ls0 := [(0, vr 11 a0 0), (1, vi x1)]) (plainFor_of_name (by decide +kernel)) (by decide +kernel) (Nat.le_of_ble_eq_true rfl) rfl rfl ?_
  refine p_aload_n dX11_pagesOf_0 rfl 0 rfl ?_
  refine p_lay (c := 11) (tq := 100) (n := 6) dX11_pagesOf_1 12 5 tb_905 (by decide) (by decide) h0 (by decide) (by decide) (fun _ => rfl) (vr 100 (a0 + 5) 6) rfl ?_
  refine p_aload_n dX11_pagesOf_4 rfl 0 rfl ?_
  refine p_lay (c := 11) (tq := 100) (n := 6) dX11_pagesOf_5 19 11 tb_912 (by decide) (by decide) h0 (by decide) (by decide) (fun _ => rfl) (vr 100 (a0 + 11) 6) rfl ?_
  refine p_iload_n dX11_pagesOf_8 rfl 1 rfl ?_
  obtain ⟨c1, hf⟩ := hf
  refine p_iald dX11_pagesOf_9 (nnk h0 (by decide)) c1 ?_
  obtain ⟨c2, hf⟩ := hf
  refine p_iald dX11_pagesOf_10 (nnk h0 (by decide)) c2 ?_
  refine p_iconst dX11_pagesOf_11 (by decide) ?_
  refine p_isub dX11_pagesOf_12 ?_
  exact p_iret dX11_pagesOf_13 rfl (by decide) (by decide) (fun _ h => absurd h List.not_mem_nil) hf
theorem ok_X11_pagesOf : mOK M_X11_pagesOf 1 := ⟨tb_1214, tb_9, by decide +kernel⟩
abbrev M_X11_isModulus : MD := (yX11_isModulus, cX11_isModulus, 1, some .boolean)
abbrev rm_X11_isModulus : Room := { frames := 1, cells := 0, slots := 0, locals := 25 }
def w_X11_isModulus_39 (K : Int → Hh → Prop) (s0 : Int) (h : Hh) : Prop := (s0 = 0 ∨ s0 = 1) ∧ (K s0 h)
set_option maxRecDepth 100000 in
set_option maxHeartbeats 4000000 in
theorem t_X11_isModulus_39 {G : Gx} {n0 : Int} {K : Int → Hh → Prop}  (s0 : Int) (h : Hh) (hf : w_X11_isModulus_39 K   s0 h) : PW G M_X11_isModulus rm_X11_isModulus 0 0 [] n0 K 39 [] [vi s0] [] 0 0 h := by
  unfold w_X11_isModulus_39 at hf
  obtain ⟨c1, hf⟩ := hf
  exact p_zret dX11_isModulus_39 rfl (by decide) (by decide) (fun _ h => absurd h List.not_mem_nil) c1 hf
def w_X11_isModulus_38 (K : Int → Hh → Prop) (h : Hh) : Prop := w_X11_isModulus_39 K   0 h
set_option maxRecDepth 100000 in
set_option maxHeartbeats 4000000 in
theorem t_X11_isModulus_38 {G : Gx} {n0 : Int} {K : Int → Hh → Prop}  (h : Hh) (hf : w_X11_isModulus_38 K    h) : PW G M_X11_isModulus rm_X11_isModulus 0 0 [] n0 K 38 [] [] [] 0 0 h := by
  unfold w_X11_isModulus_38 at hf
  refine p_iconst dX11_isModulus_38 (by decide) ?_
  exact t_X11_isModulus_39  _ _ hf
def w_X11_isModulus (x0 : Int) (h : Hh) (K : Int → Hh → Prop) : Prop := if x0 < 0 then (w_X11_isModulus_38 K    h) else (w_X11_in (w32 (Int.tdiv x0 100)) 1 50 h (fun r2 h3 => if r2 = 0 then (w_X11_isModulus_38 K    h3) else (w_X11_in (Int.tmod x0 100) 1 50 h3 (fun r4 h5 => if r4 = 0 then (w_X11_isModulus_38 K    h5) else (w_X11_isModulus_39 K   1 h5)))))
set_option maxRecDepth 100000 in
set_option maxHeartbeats 4000000 in
theorem t_X11_isModulus {G : Gx} (x0 : Int) (h : Hh) (K : Int → Hh → Prop) (hf : w_X11_isModulus x0 h K) : CT G M_X11_isModulus rm_X11_isModulus 0 0 [] [vi x0] h K := by
  unfold w_X11_isModulus at hf
  refine CT.of (ls0 := [(0, vi x0)]) (plainFor_of_name (by decide +kernel)) (by decide +kernel) (Nat.le_of_ble_eq_true rfl) rfl rfl ?_
  refine p_iload_n dX11_isModulus_0 rfl 0 rfl ?_
  refine p_if_lt (tgt := 38) (q := x0 < 0) dX11_isModulus_1 (by decide) Iff.rfl (fun hc => ?_) (fun hc => ?_)
  · replace hf := Eq.mp (if_pos hc) hf
    refine p_sub (ls' := []) [] rfl ?_
    exact t_X11_isModulus_38   _ hf
  · replace hf := Eq.mp (if_neg hc) hf
    refine p_iload_n dX11_isModulus_4 rfl 0 rfl ?_
    refine p_bipush dX11_isModulus_5 (by decide) (by decide) ?_
    refine p_idiv dX11_isModulus_7 (by decide) ?_
    refine p_i2l dX11_isModulus_8 ?_
    refine p_lconst (z := 1) dX11_isModulus_9 rfl ?_
    refine p_ldc2 (z := 50) dX11_isModulus_10 tb_1160 (by decide) ?_
    refine p_callSi dX11_isModulus_13 M_X11_in (Or.inr rfl) [vl (w32 (Int.tdiv x0 100)), vl 1, vl 50] (t_X11_in _ _ _ _ _ hf) ok_X11_in rfl tb_1079 tb_1080 rfl (Nat.le_of_ble_eq_true rfl) ⟨rfl, rfl⟩ ⟨by decide, by decide⟩ ⟨by decide, by decide⟩ (fun r2 h3 hf => ?_)
    refine p_if_eq (tgt := 38) (q := r2 = 0) dX11_isModulus_16 (by decide) Iff.rfl (fun hc => ?_) (fun hc => ?_)
    · replace hf := Eq.mp (if_pos hc) hf
      refine p_sub (ls' := []) [] rfl ?_
      exact t_X11_isModulus_38   _ hf
    · replace hf := Eq.mp (if_neg hc) hf
      refine p_iload_n dX11_isModulus_19 rfl 0 rfl ?_
      refine p_bipush dX11_isModulus_20 (by decide) (by decide) ?_
      refine p_irem dX11_isModulus_22 (by decide) ?_
      refine p_i2l dX11_isModulus_23 ?_
      refine p_lconst (z := 1) dX11_isModulus_24 rfl ?_
      refine p_ldc2 (z := 50) dX11_isModulus_25 tb_1160 (by decide) ?_
      refine p_callSi dX11_isModulus_28 M_X11_in (Or.inr rfl) [vl (Int.tmod x0 100), vl 1, vl 50] (t_X11_in _ _ _ _ _ hf) ok_X11_in rfl tb_1079 tb_1080 rfl (Nat.le_of_ble_eq_true rfl) ⟨rfl, rfl⟩ ⟨by decide, by decide⟩ ⟨by decide, by decide⟩ (fun r4 h5 hf => ?_)
      refine p_if_eq (tgt := 38) (q := r4 = 0) dX11_isModulus_31 (by decide) Iff.rfl (fun hc => ?_) (fun hc => ?_)
      · replace hf := Eq.mp (if_pos hc) hf
        refine p_sub (ls' := []) [] rfl ?_
        exact t_X11_isModulus_38   _ hf
      · replace hf := Eq.mp (if_neg hc) hf
        refine p_iconst dX11_isModulus_34 (by decide) ?_
        refine p_goto (tgt := 39) dX11_isModulus_35 (by decide) ?_
        refine p_sub (ls' := []) [] rfl ?_
        exact t_X11_isModulus_39  _ _ hf
theorem ok_X11_isModulus : mOK M_X11_isModulus 1 := ⟨tb_1159, tb_9, by decide +kernel⟩
abbrev M_X11_chart : MD := (yX11_chart, cX11_chart, 12, some .int)
abbrev rm_X11_chart : Room := { frames := 2, cells := 0, slots := 0, locals := 45 }
def w_X11_chart_43 (K : Int → Hh → Prop) (a0 : Int) (h : Hh) : Prop := K (-1) h
set_option maxRecDepth 100000 in
set_option maxHeartbeats 4000000 in
theorem t_X11_chart_43 {G : Gx} {n0 : Int} {K : Int → Hh → Prop} {a0 : Int} (h0 : 0 ≤ a0)  (h : Hh) (hf : w_X11_chart_43 K  a0  h) : PW G M_X11_chart rm_X11_chart 0 0 [] n0 K 43 [] [] [] 0 0 h := by
  unfold w_X11_chart_43 at hf
  refine p_iconst dX11_chart_43 (by decide) ?_
  exact p_iret dX11_chart_44 rfl (by decide) (by decide) (fun _ h => absurd h List.not_mem_nil) hf
def w_X11_chart_67 (K : Int → Hh → Prop) (X110 : Hh → Prop) (X143 : Int → Int → Int → Int → Int → Int → Int → Hh → Prop) (a0 : Int) : Nat → Int → Int → Int → Int → Int → Int → Int → Int → Int → Hh → Prop
  | 0, _, _, _, _, _, _, _, _, _, _ => False
  | n + 1, v1, v3, v4, v5, v6, v7, v8, v9, v10, h => if v10 < 0 then (X143 v1 v3 v4 v5 v6 v7 v8 h) else (vb (Int.tmod v8 10) fun z8 => vb (w32 (Int.tdiv v8 10)) fun z9 => w_X11_in z8 1 v7 h (fun r10 h11 => if r10 = 0 then (X110  h11) else (if (i32 ((i32 v9 >>> (i32 z8 &&& 31)).toInt) &&& i32 1).toInt ≠ 1 then (vb ((i32 v9 ||| i32 ((i32 1 <<< (i32 z8 &&& 31)).toInt)).toInt) fun z12 => ((0 : Int) ≤ w32 ((w32 (4 * (h11 a0 18))) + v10) ∧ (w32 ((w32 (4 * (h11 a0 18))) + v10) : Int) < 24) ∧ (hb (up h11 (a0 + 12) (w32 ((w32 (4 * (h11 a0 18))) + v10)) z8) fun h14 => vb (w32 (v10 + (-1))) fun z15 => w_X11_chart_67 K X110 X143 a0 n v1 v3 v4 v5 v6 v7 z9 z12 z15 h14)) else (X110  h11))))
set_option maxRecDepth 100000 in
set_option maxHeartbeats 4000000 in
theorem t_X11_chart_67 {G : Gx} {n0 : Int} {K : Int → Hh → Prop} {X110 : Hh → Prop} {X143 : Int → Int → Int → Int → Int → Int → Int → Hh → Prop} {a0 : Int} (h0 : 0 ≤ a0) (hX110 : ∀ (h : Hh), X110  h → PW G M_X11_chart rm_X11_chart 0 0 [] n0 K 110 [] [] [] 0 0 h) (hX143 : ∀ (v1 v3 v4 v5 v6 v7 v8 : Int) (h : Hh), X143 v1 v3 v4 v5 v6 v7 v8 h → PW G M_X11_chart rm_X11_chart 0 0 [] n0 K 143 [(0, vr 11 a0 0), (1, vi v1), (3, vi v3), (4, vi v4), (5, vi v5), (6, vi v6), (7, vi v7), (8, vi v8)] [] [] 0 0 h) : ∀ (n : Nat) (v1 v3 v4 v5 v6 v7 v8 v9 v10 : Int) (h : Hh), w_X11_chart_67 K X110 X143 a0 n v1 v3 v4 v5 v6 v7 v8 v9 v10 h → PW G M_X11_chart rm_X11_chart 0 0 [] n0 K 67 [(0, vr 11 a0 0), (1, vi v1), (3, vi v3), (4, vi v4), (5, vi v5), (6, vi v6), (7, vi v7), (8, vi v8), (9, vi v9), (10, vi v10)] [] [] 0 0 h := by
  intro n
  induction n with
  | zero =>
    intro v1 v3 v4 v5 v6 v7 v8 v9 v10 h hf
    rw [w_X11_chart_67] at hf
    exact hf.elim
  | succ n ih =>
    intro v1 v3 v4 v5 v6 v7 v8 v9 v10 h hf
    rw [w_X11_chart_67] at hf
    refine p_iload dX11_chart_67 9 rfl ?_
    refine p_if_lt (tgt := 143) (q := v10 < 0) dX11_chart_69 (by decide) Iff.rfl (fun hc => ?_) (fun hc => ?_)
    · replace hf := Eq.mp (if_pos hc) hf
      refine p_sub (ls' := [(0, vr 11 a0 0), (1, vi v1), (3, vi v3), (4, vi v4), (5, vi v5), (6, vi v6), (7, vi v7), (8, vi v8)]) [0, 1, 2, 3, 4, 5, 6, 7] rfl ?_
      exact hX143 _ _ _ _ _ _ _ _ hf
    · replace hf := Eq.mp (if_neg hc) hf
      refine p_iload dX11_chart_72 7 rfl ?_
      refine p_bipush dX11_chart_74 (by decide) (by decide) ?_
      refine p_irem dX11_chart_76 (by decide) ?_
      refine p_istore (ls' := [(11, vi (Int.tmod v8 10)), (0, vr 11 a0 0), (1, vi v1), (3, vi v3), (4, vi v4), (5, vi v5), (6, vi v6), (7, vi v7), (8, vi v8), (9, vi v9), (10, vi v10)]) dX11_chart_77 (by decide) rfl ?_
      replace hf := vb_e hf
      generalize (Int.tmod v8 10) = z8 at hf ⊢
      refine p_iload dX11_chart_79 8 rfl ?_
      refine p_bipush dX11_chart_81 (by decide) (by decide) ?_
      refine p_idiv dX11_chart_83 (by decide) ?_
      refine p_istore (ls' := [(8, vi (w32 (Int.tdiv v8 10))), (11, vi z8), (0, vr 11 a0 0), (1, vi v1), (3, vi v3), (4, vi v4), (5, vi v5), (6, vi v6), (7, vi v7), (9, vi v9), (10, vi v10)]) dX11_chart_84 (by decide) rfl ?_
      replace hf := vb_e hf
      generalize (w32 (Int.tdiv v8 10)) = z9 at hf ⊢
      refine p_iload dX11_chart_86 1 rfl ?_
      refine p_i2l dX11_chart_88 ?_
      refine p_lconst (z := 1) dX11_chart_89 rfl ?_
      refine p_iload dX11_chart_90 8 rfl ?_
      refine p_i2l dX11_chart_92 ?_
      refine p_callSi dX11_chart_93 M_X11_in (Or.inr rfl) [vl z8, vl 1, vl v7] (t_X11_in _ _ _ _ _ hf) ok_X11_in rfl tb_1079 tb_1080 rfl (Nat.le_of_ble_eq_true rfl) ⟨rfl, rfl⟩ ⟨by decide, by decide⟩ ⟨by decide, by decide⟩ (fun r10 h11 hf => ?_)
      refine p_if_eq (tgt := 110) (q := r10 = 0) dX11_chart_96 (by decide) Iff.rfl (fun hc => ?_) (fun hc => ?_)
      · replace hf := Eq.mp (if_pos hc) hf
        refine p_sub (ls' := []) [] rfl ?_
        exact hX110  _ hf
      · replace hf := Eq.mp (if_neg hc) hf
        refine p_iload dX11_chart_99 9 rfl ?_
        refine p_iload dX11_chart_101 1 rfl ?_
        refine p_ishr dX11_chart_103 ?_
        refine p_iconst dX11_chart_104 (by decide) ?_
        refine p_iand dX11_chart_105 ?_
        refine p_iconst dX11_chart_106 (by decide) ?_
        refine p_icmp_ne (tgt := 112) (q := (i32 ((i32 v9 >>> (i32 z8 &&& 31)).toInt) &&& i32 1).toInt ≠ 1) dX11_chart_107 (by decide) Iff.rfl (fun hc => ?_) (fun hc => ?_)
        · replace hf := Eq.mp (if_pos hc) hf
          refine p_iload dX11_chart_112 9 rfl ?_
          refine p_iconst dX11_chart_114 (by decide) ?_
          refine p_iload dX11_chart_115 1 rfl ?_
          refine p_ishl dX11_chart_117 ?_
          refine p_ior dX11_chart_118 ?_
          refine p_istore (ls' := [(9, vi ((i32 v9 ||| i32 ((i32 1 <<< (i32 z8 &&& 31)).toInt)).toInt)), (8, vi z9), (11, vi z8), (0, vr 11 a0 0), (1, vi v1), (3, vi v3), (4, vi v4), (5, vi v5), (6, vi v6), (7, vi v7), (10, vi v10)]) dX11_chart_119 (by decide) rfl ?_
          replace hf := vb_e hf
          generalize ((i32 v9 ||| i32 ((i32 1 <<< (i32 z8 &&& 31)).toInt)).toInt) = z12 at hf ⊢
          refine p_aload_n dX11_chart_121 rfl 3 rfl ?_
          refine p_lay (c := 11) (tq := 100) (n := 24) dX11_chart_122 20 12 tb_913 (by decide) (by decide) h0 (by decide) (by decide) (fun _ => rfl) (vr 100 (a0 + 12) 24) rfl ?_
          refine p_iconst dX11_chart_125 (by decide) ?_
          refine p_aload_n dX11_chart_126 rfl 3 rfl ?_
          refine p_get (c := 11) (vi (h11 a0 18)) dX11_chart_127 18 tb_911 (by decide) (by decide) (Or.inl rfl) h0 rfl rfl ?_
          refine p_imul dX11_chart_130 ?_
          refine p_iload dX11_chart_131 10 rfl ?_
          refine p_iadd dX11_chart_133 ?_
          refine p_iload dX11_chart_134 2 rfl ?_
          obtain ⟨c13, hf⟩ := hf
          refine p_iast dX11_chart_136 (nnk h0 (by decide)) c13 ?_
          replace hf := hb_e hf
          generalize up h11 (a0 + 12) (w32 ((w32 (4 * (h11 a0 18))) + v10)) z8 = h14 at hf ⊢
          refine p_iinc (ls' := [(10, vi (w32 (v10 + (-1)))), (9, vi z12), (8, vi z9), (11, vi z8), (0, vr 11 a0 0), (1, vi v1), (3, vi v3), (4, vi v4), (5, vi v5), (6, vi v6), (7, vi v7)]) dX11_chart_137 10 rfl (by decide) rfl ?_
          replace hf := vb_e hf
          generalize w32 (v10 + (-1)) = z15 at hf ⊢
          refine p_goto (tgt := 67) dX11_chart_140 (by decide) ?_
          refine p_sub (ls' := [(0, vr 11 a0 0), (1, vi v1), (3, vi v3), (4, vi v4), (5, vi v5), (6, vi v6), (7, vi v7), (8, vi z9), (9, vi z12), (10, vi z15)]) [4, 5, 6, 7, 8, 9, 10, 2, 1, 0] rfl ?_
          exact ih _ _ _ _ _ _ _ _ _ _ hf
        · replace hf := Eq.mp (if_neg hc) hf
          refine p_sub (ls' := []) [] rfl ?_
          exact hX110  _ hf
def w_X11_chart_110 (K : Int → Hh → Prop) (a0 : Int) (h : Hh) : Prop := K (-1) h
set_option maxRecDepth 100000 in
set_option maxHeartbeats 4000000 in
theorem t_X11_chart_110 {G : Gx} {n0 : Int} {K : Int → Hh → Prop} {a0 : Int} (h0 : 0 ≤ a0)  (h : Hh) (hf : w_X11_chart_110 K  a0  h) : PW G M_X11_chart rm_X11_chart 0 0 [] n0 K 110 [] [] [] 0 0 h := by
  unfold w_X11_chart_110 at hf
  refine p_iconst dX11_chart_110 (by decide) ?_
  exact p_iret dX11_chart_111 rfl (by decide) (by decide) (fun _ h => absurd h List.not_mem_nil) hf
def w_X11_chart_153 (K : Int → Hh → Prop) (X182 : Int → Int → Int → Int → Int → Int → Hh → Prop) (a0 : Int) : Nat → Int → Int → Int → Int → Int → Int → Int → Hh → Prop
  | 0, _, _, _, _, _, _, _, _ => False
  | n + 1, v1, v3, v4, v5, v6, v7, v10, h => if v10 > v7 then (X182 v1 v3 v4 v5 v6 v7 h) else (((0 : Int) ≤ w32 ((w32 (5 * v1)) + v10) ∧ (w32 ((w32 (5 * v1)) + v10) : Int) < 30) ∧ (if h (a0 + 9) (w32 ((w32 (5 * v1)) + v10)) ≠ 0 then (vb (w32 (v10 + 1)) fun z26 => w_X11_chart_153 K X182 a0 n v1 v3 v4 v5 v6 v7 z26 h) else (K (-1) h)))
set_option maxRecDepth 100000 in
set_option maxHeartbeats 4000000 in
theorem t_X11_chart_153 {G : Gx} {n0 : Int} {K : Int → Hh → Prop} {X182 : Int → Int → Int → Int → Int → Int → Hh → Prop} {a0 : Int} (h0 : 0 ≤ a0) (hX182 : ∀ (v1 v3 v4 v5 v6 v7 : Int) (h : Hh), X182 v1 v3 v4 v5 v6 v7 h → PW G M_X11_chart rm_X11_chart 0 0 [] n0 K 182 [(0, vr 11 a0 0), (1, vi v1), (3, vi v3), (4, vi v4), (5, vi v5), (6, vi v6), (7, vi v7)] [] [] 0 0 h) : ∀ (n : Nat) (v1 v3 v4 v5 v6 v7 v10 : Int) (h : Hh), w_X11_chart_153 K X182 a0 n v1 v3 v4 v5 v6 v7 v10 h → PW G M_X11_chart rm_X11_chart 0 0 [] n0 K 153 [(0, vr 11 a0 0), (1, vi v1), (3, vi v3), (4, vi v4), (5, vi v5), (6, vi v6), (7, vi v7), (10, vi v10)] [] [] 0 0 h := by
  intro n
  induction n with
  | zero =>
    intro v1 v3 v4 v5 v6 v7 v10 h hf
    rw [w_X11_chart_153] at hf
    exact hf.elim
  | succ n ih =>
    intro v1 v3 v4 v5 v6 v7 v10 h hf
    rw [w_X11_chart_153] at hf
    refine p_iload dX11_chart_153 7 rfl ?_
    refine p_iload dX11_chart_155 6 rfl ?_
    refine p_icmp_gt (tgt := 182) (q := v10 > v7) dX11_chart_157 (by decide) Iff.rfl (fun hc => ?_) (fun hc => ?_)
    · replace hf := Eq.mp (if_pos hc) hf
      refine p_sub (ls' := [(0, vr 11 a0 0), (1, vi v1), (3, vi v3), (4, vi v4), (5, vi v5), (6, vi v6), (7, vi v7)]) [0, 1, 2, 3, 4, 5, 6] rfl ?_
      exact hX182 _ _ _ _ _ _ _ hf
    · replace hf := Eq.mp (if_neg hc) hf
      refine p_aload_n dX11_chart_160 rfl 0 rfl ?_
      refine p_lay (c := 11) (tq := 100) (n := 30) dX11_chart_161 16 9 tb_909 (by decide) (by decide) h0 (by decide) (by decide) (fun _ => rfl) (vr 100 (a0 + 9) 30) rfl ?_
      refine p_iconst dX11_chart_164 (by decide) ?_
      refine p_iload_n dX11_chart_165 rfl 1 rfl ?_
      refine p_imul dX11_chart_166 ?_
      refine p_iload dX11_chart_167 7 rfl ?_
      refine p_iadd dX11_chart_169 ?_
      obtain ⟨c25, hf⟩ := hf
      refine p_iald dX11_chart_170 (nnk h0 (by decide)) c25 ?_
      refine p_if_ne (tgt := 176) (q := h (a0 + 9) (w32 ((w32 (5 * v1)) + v10)) ≠ 0) dX11_chart_171 (by decide) Iff.rfl (fun hc => ?_) (fun hc => ?_)
      · replace hf := Eq.mp (if_pos hc) hf
        refine p_iinc (ls' := [(10, vi (w32 (v10 + 1))), (0, vr 11 a0 0), (1, vi v1), (3, vi v3), (4, vi v4), (5, vi v5), (6, vi v6), (7, vi v7)]) dX11_chart_176 7 rfl (by decide) rfl ?_
        replace hf := vb_e hf
        generalize w32 (v10 + 1) = z26 at hf ⊢
        refine p_goto (tgt := 153) dX11_chart_179 (by decide) ?_
        refine p_sub (ls' := [(0, vr 11 a0 0), (1, vi v1), (3, vi v3), (4, vi v4), (5, vi v5), (6, vi v6), (7, vi v7), (10, vi z26)]) [1, 2, 3, 4, 5, 6, 7, 0] rfl ?_
        exact ih _ _ _ _ _ _ _ _ hf
      · replace hf := Eq.mp (if_neg hc) hf
        refine p_iconst dX11_chart_174 (by decide) ?_
        exact p_iret dX11_chart_175 rfl (by decide) (by decide) (fun _ h => absurd h List.not_mem_nil) hf
def w_X11_chart_243 (K : Int → Hh → Prop) (B : Int → Int → Int → Int → Int → Int → Int → Hh → Prop) (X233 : Hh → Prop) (X241 : Hh → Prop) (X287 : Int → Int → Hh → Prop) (a0 : Int) (v1 v3 v4 v5 v6 v7 v10 v11 : Int) (h : Hh) : Prop := ((0 : Int) ≤ w32 ((w32 (3 * (h a0 18))) + v10) ∧ (w32 ((w32 (3 * (h a0 18))) + v10) : Int) < 18) ∧ (hb (up h (a0 + 14) (w32 ((w32 (3 * (h a0 18))) + v10)) (w32 (Int.tdiv v11 100))) fun h35 => ((0 : Int) ≤ w32 ((w32 (3 * (h35 a0 18))) + v10) ∧ (w32 ((w32 (3 * (h35 a0 18))) + v10) : Int) < 18) ∧ (hb (up h35 (a0 + 15) (w32 ((w32 (3 * (h35 a0 18))) + v10)) (Int.tmod v11 100)) fun h37 => vb (w32 (v10 + 1)) fun z38 => B v1 v3 v4 v5 v6 v7 z38 h37))
set_option maxRecDepth 100000 in
set_option maxHeartbeats 4000000 in
theorem t_X11_chart_243 {G : Gx} {n0 : Int} {K : Int → Hh → Prop} {B : Int → Int → Int → Int → Int → Int → Int → Hh → Prop} {X233 : Hh → Prop} {X241 : Hh → Prop} {X287 : Int → Int → Hh → Prop} {a0 : Int} (h0 : 0 ≤ a0) (hB : ∀ (v1 v3 v4 v5 v6 v7 v10 : Int) (h : Hh), B v1 v3 v4 v5 v6 v7 v10 h → PW G M_X11_chart rm_X11_chart 0 0 [] n0 K 185 [(0, vr 11 a0 0), (1, vi v1), (3, vi v3), (4, vi v4), (5, vi v5), (6, vi v6), (7, vi v7), (10, vi v10)] [] [] 0 0 h) (hX233 : ∀ (h : Hh), X233  h → PW G M_X11_chart rm_X11_chart 0 0 [] n0 K 233 [] [] [] 0 0 h) (hX241 : ∀ (h : Hh), X241  h → PW G M_X11_chart rm_X11_chart 0 0 [] n0 K 241 [] [] [] 0 0 h) (hX287 : ∀ (v1 v3 : Int) (h : Hh), X287 v1 v3 h → PW G M_X11_chart rm_X11_chart 0 0 [] n0 K 287 [(0, vr 11 a0 0), (1, vi v1), (3, vi v3)] [] [] 0 0 h)  (v1 v3 v4 v5 v6 v7 v10 v11 : Int) (h : Hh) (hf : w_X11_chart_243 K B X233 X241 X287 a0 v1 v3 v4 v5 v6 v7 v10 v11 h) : PW G M_X11_chart rm_X11_chart 0 0 [] n0 K 243 [(0, vr 11 a0 0), (1, vi v1), (3, vi v3), (4, vi v4), (5, vi v5), (6, vi v6), (7, vi v7), (10, vi v10), (11, vi v11)] [] [] 0 0 h := by
  unfold w_X11_chart_243 at hf
  refine p_aload_n dX11_chart_243 rfl 0 rfl ?_
  refine p_lay (c := 11) (tq := 100) (n := 18) dX11_chart_244 22 14 tb_915 (by decide) (by decide) h0 (by decide) (by decide) (fun _ => rfl) (vr 100 (a0 + 14) 18) rfl ?_
  refine p_iconst dX11_chart_247 (by decide) ?_
  refine p_aload_n dX11_chart_248 rfl 0 rfl ?_
  refine p_get (c := 11) (vi (h a0 18)) dX11_chart_249 18 tb_911 (by decide) (by decide) (Or.inl rfl) h0 rfl rfl ?_
  refine p_imul dX11_chart_252 ?_
  refine p_iload dX11_chart_253 7 rfl ?_
  refine p_iadd dX11_chart_255 ?_
  refine p_iload dX11_chart_256 8 rfl ?_
  refine p_bipush dX11_chart_258 (by decide) (by decide) ?_
  refine p_idiv dX11_chart_260 (by decide) ?_
  obtain ⟨c34, hf⟩ := hf
  refine p_iast dX11_chart_261 (nnk h0 (by decide)) c34 ?_
  replace hf := hb_e hf
  generalize up h (a0 + 14) (w32 ((w32 (3 * (h a0 18))) + v10)) (w32 (Int.tdiv v11 100)) = h35 at hf ⊢
  refine p_aload_n dX11_chart_262 rfl 0 rfl ?_
  refine p_lay (c := 11) (tq := 100) (n := 18) dX11_chart_263 23 15 tb_916 (by decide) (by decide) h0 (by decide) (by decide) (fun _ => rfl) (vr 100 (a0 + 15) 18) rfl ?_
  refine p_iconst dX11_chart_266 (by decide) ?_
  refine p_aload_n dX11_chart_267 rfl 0 rfl ?_
  refine p_get (c := 11) (vi (h35 a0 18)) dX11_chart_268 18 tb_911 (by decide) (by decide) (Or.inl rfl) h0 rfl rfl ?_
  refine p_imul dX11_chart_271 ?_
  refine p_iload dX11_chart_272 7 rfl ?_
  refine p_iadd dX11_chart_274 ?_
  refine p_iload dX11_chart_275 8 rfl ?_
  refine p_bipush dX11_chart_277 (by decide) (by decide) ?_
  refine p_irem dX11_chart_279 (by decide) ?_
  obtain ⟨c36, hf⟩ := hf
  refine p_iast dX11_chart_280 (nnk h0 (by decide)) c36 ?_
  replace hf := hb_e hf
  generalize up h35 (a0 + 15) (w32 ((w32 (3 * (h35 a0 18))) + v10)) (Int.tmod v11 100) = h37 at hf ⊢
  refine p_iinc (ls' := [(10, vi (w32 (v10 + 1))), (0, vr 11 a0 0), (1, vi v1), (3, vi v3), (4, vi v4), (5, vi v5), (6, vi v6), (7, vi v7), (11, vi v11)]) dX11_chart_281 7 rfl (by decide) rfl ?_
  replace hf := vb_e hf
  generalize w32 (v10 + 1) = z38 at hf ⊢
  refine p_goto (tgt := 185) dX11_chart_284 (by decide) ?_
  refine p_sub (ls' := [(0, vr 11 a0 0), (1, vi v1), (3, vi v3), (4, vi v4), (5, vi v5), (6, vi v6), (7, vi v7), (10, vi z38)]) [1, 2, 3, 4, 5, 6, 7, 0] rfl ?_
  exact hB _ _ _ _ _ _ _ _ hf
def w_X11_chart_214 (K : Int → Hh → Prop) (B : Int → Int → Int → Int → Int → Int → Int → Hh → Prop) (X233 : Hh → Prop) (X241 : Hh → Prop) (X287 : Int → Int → Hh → Prop) (a0 : Int) (v1 v3 v4 v5 v6 v7 v10 s0 : Int) (h : Hh) : Prop := if v10 ≥ w32 (v7 - 1) then (if s0 = 0 then (w_X11_chart_243 K B X233 X241 X287 a0 v1 v3 v4 v5 v6 v7 v10 s0 h) else (X241  h)) else (w_X11_isModulus s0 h (fun r39 h40 => if r39 ≠ 0 then (w_X11_chart_243 K B X233 X241 X287 a0 v1 v3 v4 v5 v6 v7 v10 s0 h40) else (X233  h40)))
set_option maxRecDepth 100000 in
set_option maxHeartbeats 4000000 in
theorem t_X11_chart_214 {G : Gx} {n0 : Int} {K : Int → Hh → Prop} {B : Int → Int → Int → Int → Int → Int → Int → Hh → Prop} {X233 : Hh → Prop} {X241 : Hh → Prop} {X287 : Int → Int → Hh → Prop} {a0 : Int} (h0 : 0 ≤ a0) (hB : ∀ (v1 v3 v4 v5 v6 v7 v10 : Int) (h : Hh), B v1 v3 v4 v5 v6 v7 v10 h → PW G M_X11_chart rm_X11_chart 0 0 [] n0 K 185 [(0, vr 11 a0 0), (1, vi v1), (3, vi v3), (4, vi v4), (5, vi v5), (6, vi v6), (7, vi v7), (10, vi v10)] [] [] 0 0 h) (hX233 : ∀ (h : Hh), X233  h → PW G M_X11_chart rm_X11_chart 0 0 [] n0 K 233 [] [] [] 0 0 h) (hX241 : ∀ (h : Hh), X241  h → PW G M_X11_chart rm_X11_chart 0 0 [] n0 K 241 [] [] [] 0 0 h) (hX287 : ∀ (v1 v3 : Int) (h : Hh), X287 v1 v3 h → PW G M_X11_chart rm_X11_chart 0 0 [] n0 K 287 [(0, vr 11 a0 0), (1, vi v1), (3, vi v3)] [] [] 0 0 h)  (v1 v3 v4 v5 v6 v7 v10 s0 : Int) (h : Hh) (hf : w_X11_chart_214 K B X233 X241 X287 a0 v1 v3 v4 v5 v6 v7 v10 s0 h) : PW G M_X11_chart rm_X11_chart 0 0 [] n0 K 214 [(0, vr 11 a0 0), (1, vi v1), (3, vi v3), (4, vi v4), (5, vi v5), (6, vi v6), (7, vi v7), (10, vi v10)] [vi s0] [] 0 0 h := by
  unfold w_X11_chart_214 at hf
  refine p_istore (ls' := [(11, vi s0), (0, vr 11 a0 0), (1, vi v1), (3, vi v3), (4, vi v4), (5, vi v5), (6, vi v6), (7, vi v7), (10, vi v10)]) dX11_chart_214 (by decide) rfl ?_
  refine p_iload dX11_chart_216 8 rfl ?_
  refine p_iload dX11_chart_218 7 rfl ?_
  refine p_iconst dX11_chart_220 (by decide) ?_
  refine p_isub dX11_chart_221 ?_
  refine p_icmp_ge (tgt := 236) (q := v10 ≥ w32 (v7 - 1)) dX11_chart_222 (by decide) Iff.rfl (fun hc => ?_) (fun hc => ?_)
  · replace hf := Eq.mp (if_pos hc) hf
    refine p_iload dX11_chart_236 0 rfl ?_
    refine p_if_eq (tgt := 243) (q := s0 = 0) dX11_chart_238 (by decide) Iff.rfl (fun hc => ?_) (fun hc => ?_)
    · replace hf := Eq.mp (if_pos hc) hf
      refine p_sub (ls' := [(0, vr 11 a0 0), (1, vi v1), (3, vi v3), (4, vi v4), (5, vi v5), (6, vi v6), (7, vi v7), (10, vi v10), (11, vi s0)]) [1, 2, 3, 4, 5, 6, 7, 8, 0] rfl ?_
      exact t_X11_chart_243 h0 hB hX233 hX241 hX287 _ _ _ _ _ _ _ _ _ hf
    · replace hf := Eq.mp (if_neg hc) hf
      refine p_sub (ls' := []) [] rfl ?_
      exact hX241  _ hf
  · replace hf := Eq.mp (if_neg hc) hf
    refine p_iload dX11_chart_225 0 rfl ?_
    refine p_callSi dX11_chart_227 M_X11_isModulus (Or.inr rfl) [vi s0] (t_X11_isModulus _ _ _ hf) ok_X11_isModulus rfl tb_1157 tb_1158 rfl (Nat.le_of_ble_eq_true rfl) ⟨rfl, rfl⟩ ⟨by decide, by decide⟩ ⟨by decide, by decide⟩ (fun r39 h40 hf => ?_)
    refine p_if_ne (tgt := 243) (q := r39 ≠ 0) dX11_chart_230 (by decide) Iff.rfl (fun hc => ?_) (fun hc => ?_)
    · replace hf := Eq.mp (if_pos hc) hf
      refine p_sub (ls' := [(0, vr 11 a0 0), (1, vi v1), (3, vi v3), (4, vi v4), (5, vi v5), (6, vi v6), (7, vi v7), (10, vi v10), (11, vi s0)]) [1, 2, 3, 4, 5, 6, 7, 8, 0] rfl ?_
      exact t_X11_chart_243 h0 hB hX233 hX241 hX287 _ _ _ _ _ _ _ _ _ hf
    · replace hf := Eq.mp (if_neg hc) hf
      refine p_sub (ls' := []) [] rfl ?_
      exact hX233  _ hf
def w_X11_chart_185 (K : Int → Hh → Prop) (X233 : Hh → Prop) (X241 : Hh → Prop) (X287 : Int → Int → Hh → Prop) (a0 : Int) : Nat → Int → Int → Int → Int → Int → Int → Int → Hh → Prop
  | 0, _, _, _, _, _, _, _, _ => False
  | n + 1, v1, v3, v4, v5, v6, v7, v10, h => if v10 ≥ 3 then (X287 v1 v3 h) else (if v10 ≠ 0 then (if v10 ≠ 1 then (w_X11_chart_214 K (w_X11_chart_185 K X233 X241 X287 a0 n) X233 X241 X287 a0 v1 v3 v4 v5 v6 v7 v10 v6 h) else (w_X11_chart_214 K (w_X11_chart_185 K X233 X241 X287 a0 n) X233 X241 X287 a0 v1 v3 v4 v5 v6 v7 v10 v5 h)) else (w_X11_chart_214 K (w_X11_chart_185 K X233 X241 X287 a0 n) X233 X241 X287 a0 v1 v3 v4 v5 v6 v7 v10 v4 h))
set_option maxRecDepth 100000 in
set_option maxHeartbeats 4000000 in
theorem t_X11_chart_185 {G : Gx} {n0 : Int} {K : Int → Hh → Prop} {X233 : Hh → Prop} {X241 : Hh → Prop} {X287 : Int → Int → Hh → Prop} {a0 : Int} (h0 : 0 ≤ a0) (hX233 : ∀ (h : Hh), X233  h → PW G M_X11_chart rm_X11_chart 0 0 [] n0 K 233 [] [] [] 0 0 h) (hX241 : ∀ (h : Hh), X241  h → PW G M_X11_chart rm_X11_chart 0 0 [] n0 K 241 [] [] [] 0 0 h) (hX287 : ∀ (v1 v3 : Int) (h : Hh), X287 v1 v3 h → PW G M_X11_chart rm_X11_chart 0 0 [] n0 K 287 [(0, vr 11 a0 0), (1, vi v1), (3, vi v3)] [] [] 0 0 h) : ∀ (n : Nat) (v1 v3 v4 v5 v6 v7 v10 : Int) (h : Hh), w_X11_chart_185 K X233 X241 X287 a0 n v1 v3 v4 v5 v6 v7 v10 h → PW G M_X11_chart rm_X11_chart 0 0 [] n0 K 185 [(0, vr 11 a0 0), (1, vi v1), (3, vi v3), (4, vi v4), (5, vi v5), (6, vi v6), (7, vi v7), (10, vi v10)] [] [] 0 0 h := by
  intro n
  induction n with
  | zero =>
    intro v1 v3 v4 v5 v6 v7 v10 h hf
    rw [w_X11_chart_185] at hf
    exact hf.elim
  | succ n ih =>
    intro v1 v3 v4 v5 v6 v7 v10 h hf
    rw [w_X11_chart_185] at hf
    refine p_iload dX11_chart_185 7 rfl ?_
    refine p_iconst dX11_chart_187 (by decide) ?_
    refine p_icmp_ge (tgt := 287) (q := v10 ≥ 3) dX11_chart_188 (by decide) Iff.rfl (fun hc => ?_) (fun hc => ?_)
    · replace hf := Eq.mp (if_pos hc) hf
      refine p_sub (ls' := [(0, vr 11 a0 0), (1, vi v1), (3, vi v3)]) [0, 1, 2] rfl ?_
      exact hX287 _ _ _ hf
    · replace hf := Eq.mp (if_neg hc) hf
      refine p_iload dX11_chart_191 7 rfl ?_
      refine p_if_ne (tgt := 201) (q := v10 ≠ 0) dX11_chart_193 (by decide) Iff.rfl (fun hc => ?_) (fun hc => ?_)
      · replace hf := Eq.mp (if_pos hc) hf
        refine p_iload dX11_chart_201 7 rfl ?_
        refine p_iconst dX11_chart_203 (by decide) ?_
        refine p_icmp_ne (tgt := 212) (q := v10 ≠ 1) dX11_chart_204 (by decide) Iff.rfl (fun hc => ?_) (fun hc => ?_)
        · replace hf := Eq.mp (if_pos hc) hf
          refine p_iload dX11_chart_212 5 rfl ?_
          exact t_X11_chart_214 h0 ih hX233 hX241 hX287 _ _ _ _ _ _ _ _ _ hf
        · replace hf := Eq.mp (if_neg hc) hf
          refine p_iload dX11_chart_207 4 rfl ?_
          refine p_goto (tgt := 214) dX11_chart_209 (by decide) ?_
          exact t_X11_chart_214 h0 ih hX233 hX241 hX287 _ _ _ _ _ _ _ _ _ hf
      · replace hf := Eq.mp (if_neg hc) hf
        refine p_iload dX11_chart_196 3 rfl ?_
        refine p_goto (tgt := 214) dX11_chart_198 (by decide) ?_
        exact t_X11_chart_214 h0 ih hX233 hX241 hX287 _ _ _ _ _ _ _ _ _ hf
def w_X11_chart_241 (K : Int → Hh → Prop) (a0 : Int) (h : Hh) : Prop := K (-1) h
set_option maxRecDepth 100000 in
set_option maxHeartbeats 4000000 in
theorem t_X11_chart_241 {G : Gx} {n0 : Int} {K : Int → Hh → Prop} {a0 : Int} (h0 : 0 ≤ a0)  (h : Hh) (hf : w_X11_chart_241 K  a0  h) : PW G M_X11_chart rm_X11_chart 0 0 [] n0 K 241 [] [] [] 0 0 h := by
  unfold w_X11_chart_241 at hf
  refine p_iconst dX11_chart_241 (by decide) ?_
  exact p_iret dX11_chart_242 rfl (by decide) (by decide) (fun _ h => absurd h List.not_mem_nil) hf
def w_X11_chart (a0 x1 x2 x3 x4 x5 x6 : Int) (h : Hh) (K : Int → Hh → Prop) : Prop := w_X11_in x1 0 (w32 ((h a0 11) - 1)) h (fun r1 h2 => if r1 = 0 then (w_X11_chart_43 K  a0  h2) else (if x2 < 0 then (w_X11_chart_43 K  a0  h2) else (w_X11_in x3 10 1000 h2 (fun r3 h4 => if r3 = 0 then (w_X11_chart_43 K  a0  h4) else (if h4 a0 18 ≠ 6 then (((0 : Int) ≤ x1 ∧ (x1 : Int) < 6) ∧ (vb (w32 ((h4 (a0 + 5) x1) - 1)) fun z6 => vb (w32 (z6 - 1)) fun z7 => w_X11_chart_67 K (fun h16 => w_X11_chart_110 K  a0  h16) (fun u18 u19 u20 u21 u22 u23 u24 h17 => if u24 ≤ 0 then (w_X11_chart_153 K (fun u28 u29 u30 u31 u32 u33 h27 => w_X11_chart_185 K (fun h41 => w_X11_chart_241 K  a0  h41) (fun h42 => w_X11_chart_241 K  a0  h42) (fun u44 u45 h43 => ((0 : Int) ≤ h43 a0 18 ∧ (h43 a0 18 : Int) < 6) ∧ (hb (up h43 (a0 + 11) (h43 a0 18) u44) fun h47 => ((0 : Int) ≤ h47 a0 18 ∧ (h47 a0 18 : Int) < 6) ∧ (hb (up h47 (a0 + 13) (h47 a0 18) u45) fun h49 => hb (up h49 a0 18 (w32 ((h49 a0 18) + 1))) fun h50 => K (w32 ((h50 a0 18) - 1)) h50))) a0 NF u28 u29 u30 u31 u32 u33 0 h27) a0 NF u18 u19 u20 u21 u22 u23 0 h17) else (K (-1) h17)) a0 NF x1 x3 x4 x5 x6 z6 x2 0 z7 h4)) else (w_X11_chart_43 K  a0  h4))))))
set_option maxRecDepth 100000 in
set_option maxHeartbeats 4000000 in
theorem t_X11_chart {G : Gx} (a0 x1 x2 x3 x4 x5 x6 : Int) (h : Hh) (K : Int → Hh → Prop) (h0 : 0 ≤ a0) (hf : w_X11_chart a0 x1 x2 x3 x4 x5 x6 h K) : CT G M_X11_chart rm_X11_chart 0 0 [] [vr 11 a0 0, vi x1, vi x2, vi x3, vi x4, vi x5, vi x6] h K := by
  unfold w_X11_chart at hf
  refine CT.of (ls0 := [(0, vr 11 a0 0), (1, vi x1), (2, vi x2), (3, vi x3), (4, vi x4), (5, vi x5), (6, vi x6)]) (plainFor_of_name (by decide +kernel)) (by decide +kernel) (Nat.le_of_ble_eq_true rfl) rfl rfl ?_
  refine p_iload_n dX11_chart_0 rfl 1 rfl ?_
  refine p_i2l dX11_chart_1 ?_
  refine p_lconst (z := 0) dX11_chart_2 rfl ?_
  refine p_aload_n dX11_chart_3 rfl 0 rfl ?_
  refine p_get (c := 11) (vi (h a0 11)) dX11_chart_4 11 tb_904 (by decide) (by decide) (Or.inl rfl) h0 rfl rfl ?_
  refine p_iconst dX11_chart_7 (by decide) ?_
  refine p_isub dX11_chart_8 ?_
  refine p_i2l dX11_chart_9 ?_
  refine p_callSi dX11_chart_10 M_X11_in (Or.inr rfl) [vl x1, vl 0, vl (w32 ((h a0 11) - 1))] (t_X11_in _ _ _ _ _ hf) ok_X11_in rfl tb_1079 tb_1080 rfl (Nat.le_of_ble_eq_true rfl) ⟨rfl, rfl⟩ ⟨by decide, by decide⟩ ⟨by decide, by decide⟩ (fun r1 h2 hf => ?_)
  refine p_if_eq (tgt := 43) (q := r1 = 0) dX11_chart_13 (by decide) Iff.rfl (fun hc => ?_) (fun hc => ?_)
  · replace hf := Eq.mp (if_pos hc) hf
    refine p_sub (ls' := []) [] rfl ?_
    exact t_X11_chart_43 h0   _ hf
  · replace hf := Eq.mp (if_neg hc) hf
    refine p_iload_n dX11_chart_16 rfl 2 rfl ?_
    refine p_if_lt (tgt := 43) (q := x2 < 0) dX11_chart_17 (by decide) Iff.rfl (fun hc => ?_) (fun hc => ?_)
    · replace hf := Eq.mp (if_pos hc) hf
      refine p_sub (ls' := []) [] rfl ?_
      exact t_X11_chart_43 h0   _ hf
    · replace hf := Eq.mp (if_neg hc) hf
      refine p_iload_n dX11_chart_20 rfl 3 rfl ?_
      refine p_i2l dX11_chart_21 ?_
      refine p_ldc2 (z := 10) dX11_chart_22 tb_1124 (by decide) ?_
      refine p_ldc2 (z := 1000) dX11_chart_25 tb_1156 (by decide) ?_
      refine p_callSi dX11_chart_28 M_X11_in (Or.inr rfl) [vl x3, vl 10, vl 1000] (t_X11_in _ _ _ _ _ hf) ok_X11_in rfl tb_1079 tb_1080 rfl (Nat.le_of_ble_eq_true rfl) ⟨rfl, rfl⟩ ⟨by decide, by decide⟩ ⟨by decide, by decide⟩ (fun r3 h4 hf => ?_)
      refine p_if_eq (tgt := 43) (q := r3 = 0) dX11_chart_31 (by decide) Iff.rfl (fun hc => ?_) (fun hc => ?_)
      · replace hf := Eq.mp (if_pos hc) hf
        refine p_sub (ls' := []) [] rfl ?_
        exact t_X11_chart_43 h0   _ hf
      · replace hf := Eq.mp (if_neg hc) hf
        refine p_aload_n dX11_chart_34 rfl 0 rfl ?_
        refine p_get (c := 11) (vi (h4 a0 18)) dX11_chart_35 18 tb_911 (by decide) (by decide) (Or.inl rfl) h0 rfl rfl ?_
        refine p_bipush dX11_chart_38 (by decide) (by decide) ?_
        refine p_icmp_ne (tgt := 45) (q := h4 a0 18 ≠ 6) dX11_chart_40 (by decide) Iff.rfl (fun hc => ?_) (fun hc => ?_)
        · replace hf := Eq.mp (if_pos hc) hf
          refine p_aload_n dX11_chart_45 rfl 0 rfl ?_
          refine p_lay (c := 11) (tq := 100) (n := 6) dX11_chart_46 12 5 tb_905 (by decide) (by decide) h0 (by decide) (by decide) (fun _ => rfl) (vr 100 (a0 + 5) 6) rfl ?_
          refine p_iload_n dX11_chart_49 rfl 1 rfl ?_
          obtain ⟨c5, hf⟩ := hf
          refine p_iald dX11_chart_50 (nnk h0 (by decide)) c5 ?_
          refine p_iconst dX11_chart_51 (by decide) ?_
          refine p_isub dX11_chart_52 ?_
          refine p_istore (ls' := [(7, vi (w32 ((h4 (a0 + 5) x1) - 1))), (0, vr 11 a0 0), (1, vi x1), (2, vi x2), (3, vi x3), (4, vi x4), (5, vi x5), (6, vi x6)]) dX11_chart_53 (by decide) rfl ?_
          replace hf := vb_e hf
          generalize (w32 ((h4 (a0 + 5) x1) - 1)) = z6 at hf ⊢
          refine p_iload_n dX11_chart_55 rfl 3 rfl ?_
          refine p_istore (ls' := [(8, vi x2), (7, vi z6), (0, vr 11 a0 0), (1, vi x1), (2, vi x2), (3, vi x3), (4, vi x4), (5, vi x5), (6, vi x6)]) dX11_chart_56 (by decide) rfl ?_
          refine p_iconst dX11_chart_58 (by decide) ?_
          refine p_istore (ls' := [(9, vi 0), (8, vi x2), (7, vi z6), (0, vr 11 a0 0), (1, vi x1), (2, vi x2), (3, vi x3), (4, vi x4), (5, vi x5), (6, vi x6)]) dX11_chart_59 (by decide) rfl ?_
          refine p_iload dX11_chart_61 2 rfl ?_
          refine p_iconst dX11_chart_63 (by decide) ?_
          refine p_isub dX11_chart_64 ?_
          refine p_istore (ls' := [(10, vi (w32 (z6 - 1))), (9, vi 0), (8, vi x2), (7, vi z6), (0, vr 11 a0 0), (1, vi x1), (2, vi x2), (3, vi x3), (4, vi x4), (5, vi x5), (6, vi x6)]) dX11_chart_65 (by decide) rfl ?_
          replace hf := vb_e hf
          generalize (w32 (z6 - 1)) = z7 at hf ⊢
          refine p_sub (ls' := [(0, vr 11 a0 0), (1, vi x1), (3, vi x3), (4, vi x4), (5, vi x5), (6, vi x6), (7, vi z6), (8, vi x2), (9, vi 0), (10, vi z7)]) [4, 5, 7, 8, 9, 10, 3, 2, 1, 0] rfl ?_
          refine t_X11_chart_67 h0 ?_ ?_ NF _ _ _ _ _ _ _ _ _ _ hf
          · intro h16 hf
            exact t_X11_chart_110 h0   _ hf
          · intro u18 u19 u20 u21 u22 u23 u24 h17 hf
            refine p_iload dX11_chart_143 7 rfl ?_
            refine p_if_le (tgt := 150) (q := u24 ≤ 0) dX11_chart_145 (by decide) Iff.rfl (fun hc => ?_) (fun hc => ?_)
            · replace hf := Eq.mp (if_pos hc) hf
              refine p_iconst dX11_chart_150 (by decide) ?_
              refine p_istore (ls' := [(10, vi 0), (0, vr 11 a0 0), (1, vi u18), (3, vi u19), (4, vi u20), (5, vi u21), (6, vi u22), (7, vi u23), (8, vi u24)]) dX11_chart_151 (by decide) rfl ?_
              refine p_sub (ls' := [(0, vr 11 a0 0), (1, vi u18), (3, vi u19), (4, vi u20), (5, vi u21), (6, vi u22), (7, vi u23), (10, vi 0)]) [1, 2, 3, 4, 5, 6, 7, 0] rfl ?_
              refine t_X11_chart_153 h0 ?_ NF _ _ _ _ _ _ _ _ hf
              · intro u28 u29 u30 u31 u32 u33 h27 hf
                refine p_iconst dX11_chart_182 (by decide) ?_
                refine p_istore (ls' := [(10, vi 0), (0, vr 11 a0 0), (1, vi u28), (3, vi u29), (4, vi u30), (5, vi u31), (6, vi u32), (7, vi u33)]) dX11_chart_183 (by decide) rfl ?_
                refine p_sub (ls' := [(0, vr 11 a0 0), (1, vi u28), (3, vi u29), (4, vi u30), (5, vi u31), (6, vi u32), (7, vi u33), (10, vi 0)]) [1, 2, 3, 4, 5, 6, 7, 0] rfl ?_
                refine t_X11_chart_185 h0 ?_ ?_ ?_ NF _ _ _ _ _ _ _ _ hf
                · intro h41 hf
                  refine p_goto (tgt := 241) dX11_chart_233 (by decide) ?_
                  exact t_X11_chart_241 h0   _ hf
                · intro h42 hf
                  exact t_X11_chart_241 h0   _ hf
                · intro u44 u45 h43 hf
                  refine p_aload_n dX11_chart_287 rfl 0 rfl ?_
                  refine p_lay (c := 11) (tq := 100) (n := 6) dX11_chart_288 19 11 tb_912 (by decide) (by decide) h0 (by decide) (by decide) (fun _ => rfl) (vr 100 (a0 + 11) 6) rfl ?_
                  refine p_aload_n dX11_chart_291 rfl 0 rfl ?_
                  refine p_get (c := 11) (vi (h43 a0 18)) dX11_chart_292 18 tb_911 (by decide) (by decide) (Or.inl rfl) h0 rfl rfl ?_
                  refine p_iload_n dX11_chart_295 rfl 1 rfl ?_
                  obtain ⟨c46, hf⟩ := hf
                  refine p_iast dX11_chart_296 (nnk h0 (by decide)) c46 ?_
                  replace hf := hb_e hf
                  generalize up h43 (a0 + 11) (h43 a0 18) u44 = h47 at hf ⊢
                  refine p_aload_n dX11_chart_297 rfl 0 rfl ?_
                  refine p_lay (c := 11) (tq := 100) (n := 6) dX11_chart_298 21 13 tb_914 (by decide) (by decide) h0 (by decide) (by decide) (fun _ => rfl) (vr 100 (a0 + 13) 6) rfl ?_
                  refine p_aload_n dX11_chart_301 rfl 0 rfl ?_
                  refine p_get (c := 11) (vi (h47 a0 18)) dX11_chart_302 18 tb_911 (by decide) (by decide) (Or.inl rfl) h0 rfl rfl ?_
                  refine p_iload_n dX11_chart_305 rfl 2 rfl ?_
                  obtain ⟨c48, hf⟩ := hf
                  refine p_iast dX11_chart_306 (nnk h0 (by decide)) c48 ?_
                  replace hf := hb_e hf
                  generalize up h47 (a0 + 13) (h47 a0 18) u45 = h49 at hf ⊢
                  refine p_aload_n dX11_chart_307 rfl 0 rfl ?_
                  refine p_dup dX11_chart_308 (fun _ q => by cases q) ?_
                  refine p_get (c := 11) (vi (h49 a0 18)) dX11_chart_309 18 tb_911 (by decide) (by decide) (Or.inl rfl) h0 rfl rfl ?_
                  refine p_iconst dX11_chart_312 (by decide) ?_
                  refine p_iadd dX11_chart_313 ?_
                  refine p_puti (c := 11) dX11_chart_314 18 tb_911 (by decide) (by decide) (Or.inl rfl) h0 rfl rfl (fun _ => by decide) (up h49 a0 18 (w32 ((h49 a0 18) + 1))) rfl ?_
                  replace hf := hb_e hf
                  generalize up h49 a0 18 (w32 ((h49 a0 18) + 1)) = h50 at hf ⊢
                  refine p_aload_n dX11_chart_317 rfl 0 rfl ?_
                  refine p_get (c := 11) (vi (h50 a0 18)) dX11_chart_318 18 tb_911 (by decide) (by decide) (Or.inl rfl) h0 rfl rfl ?_
                  refine p_iconst dX11_chart_321 (by decide) ?_
                  refine p_isub dX11_chart_322 ?_
                  exact p_iret dX11_chart_323 rfl (by decide) (by decide) (fun _ h => absurd h List.not_mem_nil) hf
            · replace hf := Eq.mp (if_neg hc) hf
              refine p_iconst dX11_chart_148 (by decide) ?_
              exact p_iret dX11_chart_149 rfl (by decide) (by decide) (fun _ h => absurd h List.not_mem_nil) hf
        · replace hf := Eq.mp (if_neg hc) hf
          refine p_sub (ls' := []) [] rfl ?_
          exact t_X11_chart_43 h0   _ hf
theorem ok_X11_chart : mOK M_X11_chart 6 := ⟨tb_1155, tb_9, by decide +kernel⟩
abbrev M_X11_reading : MD := (yX11_reading, cX11_reading, 7, some .boolean)
abbrev rm_X11_reading : Room := { frames := 2, cells := 0, slots := 0, locals := 46 }
def w_X11_reading_12 (K : Int → Hh → Prop) (a0 : Int) (h : Hh) : Prop := K 0 h
set_option maxRecDepth 100000 in
set_option maxHeartbeats 4000000 in
theorem t_X11_reading_12 {G : Gx} {n0 : Int} {K : Int → Hh → Prop} {a0 : Int} (h0 : 0 ≤ a0)  (h : Hh) (hf : w_X11_reading_12 K  a0  h) : PW G M_X11_reading rm_X11_reading 0 0 [] n0 K 12 [] [] [] 0 0 h := by
  unfold w_X11_reading_12 at hf
  refine p_iconst dX11_reading_12 (by decide) ?_
  exact p_zret dX11_reading_13 rfl (by decide) (by decide) (fun _ h => absurd h List.not_mem_nil) (Or.inl rfl) hf
def w_X11_reading_40 (K : Int → Hh → Prop) (X88 : Int → Int → Int → Int → Hh → Prop) (a0 : Int) : Nat → Int → Int → Int → Int → Int → Int → Hh → Prop
  | 0, _, _, _, _, _, _, _ => False
  | n + 1, v1, v2, v3, v4, v5, v6, h => if v6 < 0 then (X88 v1 v2 v4 v5 h) else (((0 : Int) ≤ w32 ((w32 (4 * v1)) + v6) ∧ (w32 ((w32 (4 * v1)) + v6) : Int) < 24) ∧ (((0 : Int) ≤ w32 ((w32 (5 * v3)) + (h (a0 + 12) (w32 ((w32 (4 * v1)) + v6)))) ∧ (w32 ((w32 (5 * v3)) + (h (a0 + 12) (w32 ((w32 (4 * v1)) + v6)))) : Int) < 30) ∧ (if Int.tmod v5 100 < h (a0 + 9) (w32 ((w32 (5 * v3)) + (h (a0 + 12) (w32 ((w32 (4 * v1)) + v6))))) then (vb (w32 (Int.tdiv v5 100)) fun z10 => vb (w32 (v6 + (-1))) fun z11 => w_X11_reading_40 K X88 a0 n v1 v2 v3 v4 z10 z11 h) else (K 0 h))))
set_option maxRecDepth 100000 in
set_option maxHeartbeats 4000000 in
theorem t_X11_reading_40 {G : Gx} {n0 : Int} {K : Int → Hh → Prop} {X88 : Int → Int → Int → Int → Hh → Prop} {a0 : Int} (h0 : 0 ≤ a0) (hX88 : ∀ (v1 v2 v4 v5 : Int) (h : Hh), X88 v1 v2 v4 v5 h → PW G M_X11_reading rm_X11_reading 0 0 [] n0 K 88 [(0, vr 11 a0 0), (1, vi v1), (2, vi v2), (4, vi v4), (5, vi v5)] [] [] 0 0 h) : ∀ (n : Nat) (v1 v2 v3 v4 v5 v6 : Int) (h : Hh), w_X11_reading_40 K X88 a0 n v1 v2 v3 v4 v5 v6 h → PW G M_X11_reading rm_X11_reading 0 0 [] n0 K 40 [(0, vr 11 a0 0), (1, vi v1), (2, vi v2), (3, vi v3), (4, vi v4), (5, vi v5), (6, vi v6)] [] [] 0 0 h := by
  intro n
  induction n with
  | zero =>
    intro v1 v2 v3 v4 v5 v6 h hf
    rw [w_X11_reading_40] at hf
    exact hf.elim
  | succ n ih =>
    intro v1 v2 v3 v4 v5 v6 h hf
    rw [w_X11_reading_40] at hf
    refine p_iload dX11_reading_40 6 rfl ?_
    refine p_if_lt (tgt := 88) (q := v6 < 0) dX11_reading_42 (by decide) Iff.rfl (fun hc => ?_) (fun hc => ?_)
    · replace hf := Eq.mp (if_pos hc) hf
      refine p_sub (ls' := [(0, vr 11 a0 0), (1, vi v1), (2, vi v2), (4, vi v4), (5, vi v5)]) [0, 1, 2, 4, 5] rfl ?_
      exact hX88 _ _ _ _ _ hf
    · replace hf := Eq.mp (if_neg hc) hf
      refine p_iload dX11_reading_45 5 rfl ?_
      refine p_bipush dX11_reading_47 (by decide) (by decide) ?_
      refine p_irem dX11_reading_49 (by decide) ?_
      refine p_aload_n dX11_reading_50 rfl 0 rfl ?_
      refine p_lay (c := 11) (tq := 100) (n := 30) dX11_reading_51 16 9 tb_909 (by decide) (by decide) h0 (by decide) (by decide) (fun _ => rfl) (vr 100 (a0 + 9) 30) rfl ?_
      refine p_iconst dX11_reading_54 (by decide) ?_
      refine p_iload_n dX11_reading_55 rfl 3 rfl ?_
      refine p_imul dX11_reading_56 ?_
      refine p_aload_n dX11_reading_57 rfl 0 rfl ?_
      refine p_lay (c := 11) (tq := 100) (n := 24) dX11_reading_58 20 12 tb_913 (by decide) (by decide) h0 (by decide) (by decide) (fun _ => rfl) (vr 100 (a0 + 12) 24) rfl ?_
      refine p_iconst dX11_reading_61 (by decide) ?_
      refine p_iload_n dX11_reading_62 rfl 1 rfl ?_
      refine p_imul dX11_reading_63 ?_
      refine p_iload dX11_reading_64 6 rfl ?_
      refine p_iadd dX11_reading_66 ?_
      obtain ⟨c8, hf⟩ := hf
      refine p_iald dX11_reading_67 (nnk h0 (by decide)) c8 ?_
      refine p_iadd dX11_reading_68 ?_
      obtain ⟨c9, hf⟩ := hf
      refine p_iald dX11_reading_69 (nnk h0 (by decide)) c9 ?_
      refine p_icmp_lt (tgt := 75) (q := Int.tmod v5 100 < h (a0 + 9) (w32 ((w32 (5 * v3)) + (h (a0 + 12) (w32 ((w32 (4 * v1)) + v6)))))) dX11_reading_70 (by decide) Iff.rfl (fun hc => ?_) (fun hc => ?_)
      · replace hf := Eq.mp (if_pos hc) hf
        refine p_iload dX11_reading_75 5 rfl ?_
        refine p_bipush dX11_reading_77 (by decide) (by decide) ?_
        refine p_idiv dX11_reading_79 (by decide) ?_
        refine p_istore (ls' := [(5, vi (w32 (Int.tdiv v5 100))), (0, vr 11 a0 0), (1, vi v1), (2, vi v2), (3, vi v3), (4, vi v4), (6, vi v6)]) dX11_reading_80 (by decide) rfl ?_
        replace hf := vb_e hf
        generalize (w32 (Int.tdiv v5 100)) = z10 at hf ⊢
        refine p_iinc (ls' := [(6, vi (w32 (v6 + (-1)))), (5, vi z10), (0, vr 11 a0 0), (1, vi v1), (2, vi v2), (3, vi v3), (4, vi v4)]) dX11_reading_82 6 rfl (by decide) rfl ?_
        replace hf := vb_e hf
        generalize w32 (v6 + (-1)) = z11 at hf ⊢
        refine p_goto (tgt := 40) dX11_reading_85 (by decide) ?_
        refine p_sub (ls' := [(0, vr 11 a0 0), (1, vi v1), (2, vi v2), (3, vi v3), (4, vi v4), (5, vi z10), (6, vi z11)]) [2, 3, 4, 5, 6, 1, 0] rfl ?_
        exact ih _ _ _ _ _ _ _ hf
      · replace hf := Eq.mp (if_neg hc) hf
        refine p_iconst dX11_reading_73 (by decide) ?_
        exact p_zret dX11_reading_74 rfl (by decide) (by decide) (fun _ h => absurd h List.not_mem_nil) (Or.inl rfl) hf
def w_X11_reading_104 (K : Int → Hh → Prop) (a0 : Int) : Nat → Int → Int → Int → Hh → Prop
  | 0, _, _, _, _ => False
  | n + 1, v1, v5, v6, h => if v6 < 0 then (hb (up h a0 27 v1) fun h18 => K 1 h18) else (((0 : Int) ≤ v6 ∧ (v6 : Int) < 4) ∧ (hb (up h (a0 + 19) v6 (Int.tmod v5 100)) fun h20 => vb (w32 (Int.tdiv v5 100)) fun z21 => vb (w32 (v6 + (-1))) fun z22 => w_X11_reading_104 K  a0 n v1 z21 z22 h20))
set_option maxRecDepth 100000 in
set_option maxHeartbeats 4000000 in
theorem t_X11_reading_104 {G : Gx} {n0 : Int} {K : Int → Hh → Prop} {a0 : Int} (h0 : 0 ≤ a0) : ∀ (n : Nat) (v1 v5 v6 : Int) (h : Hh), w_X11_reading_104 K  a0 n v1 v5 v6 h → PW G M_X11_reading rm_X11_reading 0 0 [] n0 K 104 [(0, vr 11 a0 0), (1, vi v1), (5, vi v5), (6, vi v6)] [] [] 0 0 h := by
  intro n
  induction n with
  | zero =>
    intro v1 v5 v6 h hf
    rw [w_X11_reading_104] at hf
    exact hf.elim
  | succ n ih =>
    intro v1 v5 v6 h hf
    rw [w_X11_reading_104] at hf
    refine p_iload dX11_reading_104 3 rfl ?_
    refine p_if_lt (tgt := 134) (q := v6 < 0) dX11_reading_106 (by decide) Iff.rfl (fun hc => ?_) (fun hc => ?_)
    · replace hf := Eq.mp (if_pos hc) hf
      refine p_aload_n dX11_reading_134 rfl 0 rfl ?_
      refine p_iload_n dX11_reading_135 rfl 1 rfl ?_
      refine p_puti (c := 11) dX11_reading_136 27 tb_920 (by decide) (by decide) (Or.inl rfl) h0 rfl rfl (fun _ => by decide) (up h a0 27 v1) rfl ?_
      replace hf := hb_e hf
      generalize up h a0 27 v1 = h18 at hf ⊢
      refine p_iconst dX11_reading_139 (by decide) ?_
      exact p_zret dX11_reading_140 rfl (by decide) (by decide) (fun _ h => absurd h List.not_mem_nil) (Or.inr rfl) hf
    · replace hf := Eq.mp (if_neg hc) hf
      refine p_aload_n dX11_reading_109 rfl 0 rfl ?_
      refine p_lay (c := 11) (tq := 100) (n := 4) dX11_reading_110 28 19 tb_921 (by decide) (by decide) h0 (by decide) (by decide) (fun _ => rfl) (vr 100 (a0 + 19) 4) rfl ?_
      refine p_iload dX11_reading_113 3 rfl ?_
      refine p_iload dX11_reading_115 2 rfl ?_
      refine p_bipush dX11_reading_117 (by decide) (by decide) ?_
      refine p_irem dX11_reading_119 (by decide) ?_
      obtain ⟨c19, hf⟩ := hf
      refine p_iast dX11_reading_120 (nnk h0 (by decide)) c19 ?_
      replace hf := hb_e hf
      generalize up h (a0 + 19) v6 (Int.tmod v5 100) = h20 at hf ⊢
      refine p_iload dX11_reading_121 2 rfl ?_
      refine p_bipush dX11_reading_123 (by decide) (by decide) ?_
      refine p_idiv dX11_reading_125 (by decide) ?_
      refine p_istore (ls' := [(5, vi (w32 (Int.tdiv v5 100))), (0, vr 11 a0 0), (1, vi v1), (6, vi v6)]) dX11_reading_126 (by decide) rfl ?_
      replace hf := vb_e hf
      generalize (w32 (Int.tdiv v5 100)) = z21 at hf ⊢
      refine p_iinc (ls' := [(6, vi (w32 (v6 + (-1)))), (5, vi z21), (0, vr 11 a0 0), (1, vi v1)]) dX11_reading_128 3 rfl (by decide) rfl ?_
      replace hf := vb_e hf
      generalize w32 (v6 + (-1)) = z22 at hf ⊢
      refine p_goto (tgt := 104) dX11_reading_131 (by decide) ?_
      refine p_sub (ls' := [(0, vr 11 a0 0), (1, vi v1), (5, vi z21), (6, vi z22)]) [2, 3, 1, 0] rfl ?_
      exact ih _ _ _ _ hf
def w_X11_reading (a0 x1 x2 : Int) (h : Hh) (K : Int → Hh → Prop) : Prop := w_X11_isChart a0 x1 h (fun r1 h2 => if r1 = 0 then (w_X11_reading_12 K  a0  h2) else (if x2 ≥ 0 then (((0 : Int) ≤ x1 ∧ (x1 : Int) < 6) ∧ (vb (h2 (a0 + 11) x1) fun z4 => ((0 : Int) ≤ z4 ∧ (z4 : Int) < 6) ∧ (vb (w32 ((h2 (a0 + 5) z4) - 1)) fun z6 => vb (w32 (z6 - 1)) fun z7 => w_X11_reading_40 K (fun u13 u14 u15 u16 h12 => if u16 ≤ 0 then (vb (w32 (u15 - 1)) fun z17 => w_X11_reading_104 K  a0 NF u13 u14 z17 h12) else (K 0 h12)) a0 NF x1 x2 z4 z6 x2 z7 h2))) else (w_X11_reading_12 K  a0  h2)))
set_option maxRecDepth 100000 in
set_option maxHeartbeats 4000000 in
theorem t_X11_reading {G : Gx} (a0 x1 x2 : Int) (h : Hh) (K : Int → Hh → Prop) (h0 : 0 ≤ a0) (hf : w_X11_reading a0 x1 x2 h K) : CT G M_X11_reading rm_X11_reading 0 0 [] [vr 11 a0 0, vi x1, vi x2] h K := by
  unfold w_X11_reading at hf
  refine CT.of (ls0 := [(0, vr 11 a0 0), (1, vi x1), (2, vi x2)]) (plainFor_of_name (by decide +kernel)) (by decide +kernel) (Nat.le_of_ble_eq_true rfl) rfl rfl ?_
  refine p_aload_n dX11_reading_0 rfl 0 rfl ?_
  refine p_iload_n dX11_reading_1 rfl 1 rfl ?_
  refine p_callVi dX11_reading_2 M_X11_isChart (Or.inr rfl) [vi x1] (t_X11_isChart _ _ _ _ h0 hf) ok_X11_isChart rfl (c := 11) (by decide) h0 rfl tb_1165 ⟨tb_1167, ts_81⟩ rfl (Nat.le_of_ble_eq_true rfl) ⟨rfl, rfl⟩ ⟨by decide, by decide⟩ ⟨by decide, by decide⟩ (fun r1 h2 hf => ?_)
  refine p_if_eq (tgt := 12) (q := r1 = 0) dX11_reading_5 (by decide) Iff.rfl (fun hc => ?_) (fun hc => ?_)
  · replace hf := Eq.mp (if_pos hc) hf
    refine p_sub (ls' := []) [] rfl ?_
    exact t_X11_reading_12 h0   _ hf
  · replace hf := Eq.mp (if_neg hc) hf
    refine p_iload_n dX11_reading_8 rfl 2 rfl ?_
    refine p_if_ge (tgt := 14) (q := x2 ≥ 0) dX11_reading_9 (by decide) Iff.rfl (fun hc => ?_) (fun hc => ?_)
    · replace hf := Eq.mp (if_pos hc) hf
      refine p_aload_n dX11_reading_14 rfl 0 rfl ?_
      refine p_lay (c := 11) (tq := 100) (n := 6) dX11_reading_15 19 11 tb_912 (by decide) (by decide) h0 (by decide) (by decide) (fun _ => rfl) (vr 100 (a0 + 11) 6) rfl ?_
      refine p_iload_n dX11_reading_18 rfl 1 rfl ?_
      obtain ⟨c3, hf⟩ := hf
      refine p_iald dX11_reading_19 (nnk h0 (by decide)) c3 ?_
      refine p_istore_n (ls' := [(3, vi (h2 (a0 + 11) x1)), (0, vr 11 a0 0), (1, vi x1), (2, vi x2)]) dX11_reading_20 rfl (by decide) rfl ?_
      replace hf := vb_e hf
      generalize (h2 (a0 + 11) x1) = z4 at hf ⊢
      refine p_aload_n dX11_reading_21 rfl 1 rfl ?_
      refine p_lay (c := 11) (tq := 100) (n := 6) dX11_reading_22 12 5 tb_905 (by decide) (by decide) h0 (by decide) (by decide) (fun _ => rfl) (vr 100 (a0 + 5) 6) rfl ?_
      refine p_iload_n dX11_reading_25 rfl 0 rfl ?_
      obtain ⟨c5, hf⟩ := hf
      refine p_iald dX11_reading_26 (nnk h0 (by decide)) c5 ?_
      refine p_iconst dX11_reading_27 (by decide) ?_
      refine p_isub dX11_reading_28 ?_
      refine p_istore (ls' := [(4, vi (w32 ((h2 (a0 + 5) z4) - 1))), (3, vi z4), (0, vr 11 a0 0), (1, vi x1), (2, vi x2)]) dX11_reading_29 (by decide) rfl ?_
      replace hf := vb_e hf
      generalize (w32 ((h2 (a0 + 5) z4) - 1)) = z6 at hf ⊢
      refine p_iload_n dX11_reading_31 rfl 4 rfl ?_
      refine p_istore (ls' := [(5, vi x2), (4, vi z6), (3, vi z4), (0, vr 11 a0 0), (1, vi x1), (2, vi x2)]) dX11_reading_32 (by decide) rfl ?_
      refine p_iload dX11_reading_34 1 rfl ?_
      refine p_iconst dX11_reading_36 (by decide) ?_
      refine p_isub dX11_reading_37 ?_
      refine p_istore (ls' := [(6, vi (w32 (z6 - 1))), (5, vi x2), (4, vi z6), (3, vi z4), (0, vr 11 a0 0), (1, vi x1), (2, vi x2)]) dX11_reading_38 (by decide) rfl ?_
      replace hf := vb_e hf
      generalize (w32 (z6 - 1)) = z7 at hf ⊢
      refine p_sub (ls' := [(0, vr 11 a0 0), (1, vi x1), (2, vi x2), (3, vi z4), (4, vi z6), (5, vi x2), (6, vi z7)]) [4, 5, 6, 3, 2, 1, 0] rfl ?_
      refine t_X11_reading_40 h0 ?_ NF _ _ _ _ _ _ _ hf
      · intro u13 u14 u15 u16 h12 hf
        refine p_iload dX11_reading_88 4 rfl ?_
        refine p_if_le (tgt := 95) (q := u16 ≤ 0) dX11_reading_90 (by decide) Iff.rfl (fun hc => ?_) (fun hc => ?_)
        · replace hf := Eq.mp (if_pos hc) hf
          refine p_iload_n dX11_reading_95 rfl 2 rfl ?_
          refine p_istore (ls' := [(5, vi u14), (0, vr 11 a0 0), (1, vi u13), (2, vi u14), (4, vi u15)]) dX11_reading_96 (by decide) rfl ?_
          refine p_iload dX11_reading_98 4 rfl ?_
          refine p_iconst dX11_reading_100 (by decide) ?_
          refine p_isub dX11_reading_101 ?_
          refine p_istore (ls' := [(6, vi (w32 (u15 - 1))), (5, vi u14), (0, vr 11 a0 0), (1, vi u13), (2, vi u14), (4, vi u15)]) dX11_reading_102 (by decide) rfl ?_
          replace hf := vb_e hf
          generalize (w32 (u15 - 1)) = z17 at hf ⊢
          refine p_sub (ls' := [(0, vr 11 a0 0), (1, vi u13), (5, vi u14), (6, vi z17)]) [2, 3, 1, 0] rfl ?_
          refine t_X11_reading_104 h0  NF _ _ _ _ hf
        · replace hf := Eq.mp (if_neg hc) hf
          refine p_iconst dX11_reading_93 (by decide) ?_
          exact p_zret dX11_reading_94 rfl (by decide) (by decide) (fun _ h => absurd h List.not_mem_nil) (Or.inl rfl) hf
    · replace hf := Eq.mp (if_neg hc) hf
      refine p_sub (ls' := []) [] rfl ?_
      exact t_X11_reading_12 h0   _ hf
theorem ok_X11_reading : mOK M_X11_reading 2 := ⟨tb_1164, tb_9, by decide +kernel⟩
abbrev M_X11_cut : MD := (yX11_cut, cX11_cut, 3, some .long)
abbrev rm_X11_cut : Room := { frames := 0, cells := 0, slots := 0, locals := 0 }
def w_X11_cut (x0 x2 : Int) (h : Hh) (K : Int → Hh → Prop) : Prop := K (w64 (Int.tdiv (w64 (x0 * x2)) 1000)) h
set_option maxRecDepth 100000 in
set_option maxHeartbeats 4000000 in
theorem t_X11_cut {G : Gx} (x0 x2 : Int) (h : Hh) (K : Int → Hh → Prop) (hf : w_X11_cut x0 x2 h K) : CT G M_X11_cut rm_X11_cut 0 0 [] [vl x0, vi x2] h K := by
  unfold w_X11_cut at hf
  refine CT.of (ls0 := [(0, vl x0), (2, vi x2)]) (plainFor_of_name (by decide +kernel)) (by decide +kernel) (Nat.le_of_ble_eq_true rfl) rfl rfl ?_
  refine p_lload_n dX11_cut_0 rfl 0 rfl ?_
  refine p_iload_n dX11_cut_1 rfl 1 rfl ?_
  refine p_i2l dX11_cut_2 ?_
  refine p_lmul dX11_cut_3 ?_
  refine p_ldc2 (z := 1000) dX11_cut_4 tb_1156 (by decide) ?_
  refine p_ldiv dX11_cut_7 (by decide) ?_
  exact p_lret dX11_cut_8 rfl (by decide) (by decide) (fun _ h => absurd h List.not_mem_nil) hf
theorem ok_X11_cut : mOK M_X11_cut 2 := ⟨tb_1194, tb_9, by decide +kernel⟩
abbrev M_X11_swells : MD := (yX11_swells, cX11_swells, 6, some .long)
abbrev rm_X11_swells : Room := { frames := 1, cells := 0, slots := 0, locals := 22 }
def w_X11_swells (a0 x1 x2 : Int) (h : Hh) (K : Int → Hh → Prop) : Prop := ((0 : Int) ≤ x1 ∧ (x1 : Int) < 6) ∧ (if x2 > h (a0 + 16) x1 then (vb (w64 (x2 - (h (a0 + 16) x1))) fun z2 => w_X11_cut (h (a0 + 16) x1) (h (a0 + 17) x1) h (fun r3 h4 => w_X11_cut z2 (h4 (a0 + 18) x1) h4 (fun r5 h6 => K (w64 ((w64 ((w64 ((h (a0 + 16) x1) + r3)) + z2)) + r5)) h6))) else (w_X11_cut x2 (h (a0 + 17) x1) h (fun r7 h8 => K (w64 (x2 + r7)) h8)))
set_option maxRecDepth 100000 in
set_option maxHeartbeats 4000000 in
theorem t_X11_swells {G : Gx} (a0 x1 x2 : Int) (h : Hh) (K : Int → Hh → Prop) (h0 : 0 ≤ a0) (hf : w_X11_swells a0 x1 x2 h K) : CT G M_X11_swells rm_X11_swells 0 0 [] [vr 11 a0 0, vi x1, vl x2] h K := by
  unfold w_X11_swells at hf
  refine CT.of (ls0 := [(0, vr 11 a0 0), (1, vi x1), (2, vl x2)]) (plainFor_of_name (by decide +kernel)) (by decide +kernel) (Nat.le_of_ble_eq_true rfl) rfl rfl ?_
  refine p_lload_n dX11_swells_0 rfl 2 rfl ?_
  refine p_aload_n dX11_swells_1 rfl 0 rfl ?_
  refine p_lay (c := 11) (tq := 100) (n := 6) dX11_swells_2 24 16 tb_917 (by decide) (by decide) h0 (by decide) (by decide) (fun _ => rfl) (vr 100 (a0 + 16) 6) rfl ?_
  refine p_iload_n dX11_swells_5 rfl 1 rfl ?_
  obtain ⟨c1, hf⟩ := hf
  refine p_iald dX11_swells_6 (nnk h0 (by decide)) c1 ?_
  refine p_i2l dX11_swells_7 ?_
  refine p_lcmp (z := (if x2 < h (a0 + 16) x1 then (-1) else if x2 = h (a0 + 16) x1 then 0 else 1)) dX11_swells_8 rfl ?_
  refine p_if_gt (tgt := 25) (q := x2 > h (a0 + 16) x1) dX11_swells_9 (by decide) (lc_gt x2 (h (a0 + 16) x1)) (fun hc => ?_) (fun hc => ?_)
  · replace hf := Eq.mp (if_pos hc) hf
    refine p_lload_n dX11_swells_25 rfl 2 rfl ?_
    refine p_aload_n dX11_swells_26 rfl 0 rfl ?_
    refine p_lay (c := 11) (tq := 100) (n := 6) dX11_swells_27 24 16 tb_917 (by decide) (by decide) h0 (by decide) (by decide) (fun _ => rfl) (vr 100 (a0 + 16) 6) rfl ?_
    refine p_iload_n dX11_swells_30 rfl 1 rfl ?_
    refine p_iald dX11_swells_31 (nnk h0 (by decide)) c1 ?_
    refine p_i2l dX11_swells_32 ?_
    refine p_lsub dX11_swells_33 ?_
    refine p_lstore (ls' := [(4, vl (w64 (x2 - (h (a0 + 16) x1)))), (0, vr 11 a0 0), (1, vi x1), (2, vl x2)]) dX11_swells_34 (by decide) rfl ?_
    replace hf := vb_e hf
    generalize (w64 (x2 - (h (a0 + 16) x1))) = z2 at hf ⊢
    refine p_aload_n dX11_swells_36 rfl 1 rfl ?_
    refine p_lay (c := 11) (tq := 100) (n := 6) dX11_swells_37 24 16 tb_917 (by decide) (by decide) h0 (by decide) (by decide) (fun _ => rfl) (vr 100 (a0 + 16) 6) rfl ?_
    refine p_iload_n dX11_swells_40 rfl 2 rfl ?_
    refine p_iald dX11_swells_41 (nnk h0 (by decide)) c1 ?_
    refine p_i2l dX11_swells_42 ?_
    refine p_aload_n dX11_swells_43 rfl 1 rfl ?_
    refine p_lay (c := 11) (tq := 100) (n := 6) dX11_swells_44 24 16 tb_917 (by decide) (by decide) h0 (by decide) (by decide) (fun _ => rfl) (vr 100 (a0 + 16) 6) rfl ?_
    refine p_iload_n dX11_swells_47 rfl 2 rfl ?_
    refine p_iald dX11_swells_48 (nnk h0 (by decide)) c1 ?_
    refine p_i2l dX11_swells_49 ?_
    refine p_aload_n dX11_swells_50 rfl 1 rfl ?_
    refine p_lay (c := 11) (tq := 100) (n := 6) dX11_swells_51 25 17 tb_918 (by decide) (by decide) h0 (by decide) (by decide) (fun _ => rfl) (vr 100 (a0 + 17) 6) rfl ?_
    refine p_iload_n dX11_swells_54 rfl 2 rfl ?_
    refine p_iald dX11_swells_55 (nnk h0 (by decide)) c1 ?_
    refine p_callSl dX11_swells_56 M_X11_cut rfl [vl (h (a0 + 16) x1), vi (h (a0 + 17) x1)] (t_X11_cut _ _ _ _ hf) ok_X11_cut rfl tb_1192 tb_1193 rfl (Nat.le_of_ble_eq_true rfl) ⟨rfl, rfl⟩ ⟨by decide, by decide⟩ ⟨by decide, by decide⟩ (fun r3 h4 hf => ?_)
    refine p_ladd dX11_swells_59 ?_
    refine p_lload dX11_swells_60 0 rfl ?_
    refine p_ladd dX11_swells_62 ?_
    refine p_lload dX11_swells_63 0 rfl ?_
    refine p_aload_n dX11_swells_65 rfl 1 rfl ?_
    refine p_lay (c := 11) (tq := 100) (n := 6) dX11_swells_66 26 18 tb_919 (by decide) (by decide) h0 (by decide) (by decide) (fun _ => rfl) (vr 100 (a0 + 18) 6) rfl ?_
    refine p_iload_n dX11_swells_69 rfl 2 rfl ?_
    refine p_iald dX11_swells_70 (nnk h0 (by decide)) c1 ?_
    refine p_callSl dX11_swells_71 M_X11_cut rfl [vl z2, vi (h4 (a0 + 18) x1)] (t_X11_cut _ _ _ _ hf) ok_X11_cut rfl tb_1192 tb_1193 rfl (Nat.le_of_ble_eq_true rfl) ⟨rfl, rfl⟩ ⟨by decide, by decide⟩ ⟨by decide, by decide⟩ (fun r5 h6 hf => ?_)
    refine p_ladd dX11_swells_74 ?_
    exact p_lret dX11_swells_75 rfl (by decide) (by decide) (fun _ h => absurd h List.not_mem_nil) hf
  · replace hf := Eq.mp (if_neg hc) hf
    refine p_lload_n dX11_swells_12 rfl 2 rfl ?_
    refine p_lload_n dX11_swells_13 rfl 2 rfl ?_
    refine p_aload_n dX11_swells_14 rfl 0 rfl ?_
    refine p_lay (c := 11) (tq := 100) (n := 6) dX11_swells_15 25 17 tb_918 (by decide) (by decide) h0 (by decide) (by decide) (fun _ => rfl) (vr 100 (a0 + 17) 6) rfl ?_
    refine p_iload_n dX11_swells_18 rfl 1 rfl ?_
    refine p_iald dX11_swells_19 (nnk h0 (by decide)) c1 ?_
    refine p_callSl dX11_swells_20 M_X11_cut rfl [vl x2, vi (h (a0 + 17) x1)] (t_X11_cut _ _ _ _ hf) ok_X11_cut rfl tb_1192 tb_1193 rfl (Nat.le_of_ble_eq_true rfl) ⟨rfl, rfl⟩ ⟨by decide, by decide⟩ ⟨by decide, by decide⟩ (fun r7 h8 hf => ?_)
    refine p_ladd dX11_swells_23 ?_
    exact p_lret dX11_swells_24 rfl (by decide) (by decide) (fun _ h => absurd h List.not_mem_nil) hf
theorem ok_X11_swells : mOK M_X11_swells 2 := ⟨tb_1191, tb_9, by decide +kernel⟩
abbrev M_X11_back : MD := (yX11_back, cX11_back, 10, some .long)
abbrev rm_X11_back : Room := { frames := 2, cells := 0, slots := 0, locals := 47 }
def w_X11_back_58 (K : Int → Hh → Prop) (B : Int → Int → Int → Int → Hh → Prop) (a0 : Int) (v1 v2 v4 v6 : Int) (h : Hh) : Prop := B v1 v2 v4 v6 h
set_option maxRecDepth 100000 in
set_option maxHeartbeats 4000000 in
theorem t_X11_back_58 {G : Gx} {n0 : Int} {K : Int → Hh → Prop} {B : Int → Int → Int → Int → Hh → Prop} {a0 : Int} (h0 : 0 ≤ a0) (hB : ∀ (v1 v2 v4 v6 : Int) (h : Hh), B v1 v2 v4 v6 h → PW G M_X11_back rm_X11_back 0 0 [] n0 K 10 [(0, vr 11 a0 0), (1, vi v1), (2, vl v2), (4, vl v4), (6, vl v6)] [] [] 0 0 h)  (v1 v2 v4 v6 : Int) (h : Hh) (hf : w_X11_back_58 K B a0 v1 v2 v4 v6 h) : PW G M_X11_back rm_X11_back 0 0 [] n0 K 58 [(0, vr 11 a0 0), (1, vi v1), (2, vl v2), (4, vl v4), (6, vl v6)] [] [] 0 0 h := by
  unfold w_X11_back_58 at hf
  refine p_goto (tgt := 10) dX11_back_58 (by decide) ?_
  exact hB _ _ _ _ _ hf
def w_X11_back_10 (K : Int → Hh → Prop) (a0 : Int) : Nat → Int → Int → Int → Int → Hh → Prop
  | 0, _, _, _, _, _ => False
  | n + 1, v1, v2, v4, v6, h => if v4 ≥ v6 then (K v4 h) else (w_X11_floor (w64 ((w64 (v4 + v6)) + 1)) 2 h (fun r1 h2 => w_X11_swells a0 v1 r1 h2 (fun r3 h4 => if r3 > v2 then (vb (w64 (r1 - 1)) fun z5 => w_X11_back_58 K (w_X11_back_10 K  a0 n) a0 v1 v2 v4 z5 h4) else (w_X11_back_58 K (w_X11_back_10 K  a0 n) a0 v1 v2 r1 v6 h4))))
set_option maxRecDepth 100000 in
set_option maxHeartbeats 4000000 in
theorem t_X11_back_10 {G : Gx} {n0 : Int} {K : Int → Hh → Prop} {a0 : Int} (h0 : 0 ≤ a0) : ∀ (n : Nat) (v1 v2 v4 v6 : Int) (h : Hh), w_X11_back_10 K  a0 n v1 v2 v4 v6 h → PW G M_X11_back rm_X11_back 0 0 [] n0 K 10 [(0, vr 11 a0 0), (1, vi v1), (2, vl v2), (4, vl v4), (6, vl v6)] [] [] 0 0 h := by
  intro n
  induction n with
  | zero =>
    intro v1 v2 v4 v6 h hf
    rw [w_X11_back_10] at hf
    exact hf.elim
  | succ n ih =>
    intro v1 v2 v4 v6 h hf
    rw [w_X11_back_10] at hf
    refine p_lload dX11_back_10 3 rfl ?_
    refine p_lload dX11_back_12 4 rfl ?_
    refine p_lcmp (z := (if v4 < v6 then (-1) else if v4 = v6 then 0 else 1)) dX11_back_14 rfl ?_
    refine p_if_ge (tgt := 61) (q := v4 ≥ v6) dX11_back_15 (by decide) (lc_ge v4 v6) (fun hc => ?_) (fun hc => ?_)
    · replace hf := Eq.mp (if_pos hc) hf
      refine p_lload dX11_back_61 3 rfl ?_
      exact p_lret dX11_back_63 rfl (by decide) (by decide) (fun _ h => absurd h List.not_mem_nil) hf
    · replace hf := Eq.mp (if_neg hc) hf
      refine p_lload dX11_back_18 3 rfl ?_
      refine p_lload dX11_back_20 4 rfl ?_
      refine p_ladd dX11_back_22 ?_
      refine p_lconst (z := 1) dX11_back_23 rfl ?_
      refine p_ladd dX11_back_24 ?_
      refine p_ldc2 (z := 2) dX11_back_25 tb_1135 (by decide) ?_
      refine p_callSl dX11_back_28 M_X11_floor rfl [vl (w64 ((w64 (v4 + v6)) + 1)), vl 2] (t_X11_floor _ _ _ _ hf) ok_X11_floor rfl tb_1141 tb_1142 rfl (Nat.le_of_ble_eq_true rfl) ⟨rfl, rfl⟩ ⟨by decide, by decide⟩ ⟨by decide, by decide⟩ (fun r1 h2 hf => ?_)
      refine p_lstore (ls' := [(8, vl r1), (0, vr 11 a0 0), (1, vi v1), (2, vl v2), (4, vl v4), (6, vl v6)]) dX11_back_31 (by decide) rfl ?_
      refine p_aload_n dX11_back_33 rfl 1 rfl ?_
      refine p_iload_n dX11_back_34 rfl 2 rfl ?_
      refine p_lload dX11_back_35 0 rfl ?_
      refine p_callVl dX11_back_37 M_X11_swells rfl [vi v1, vl r1] (t_X11_swells _ _ _ _ _ h0 hf) ok_X11_swells rfl (c := 11) (by decide) h0 rfl tb_1188 ⟨tb_1190, ts_83⟩ rfl (Nat.le_of_ble_eq_true rfl) ⟨rfl, rfl⟩ ⟨by decide, by decide⟩ ⟨by decide, by decide⟩ (fun r3 h4 hf => ?_)
      refine p_lload_n dX11_back_40 rfl 3 rfl ?_
      refine p_lcmp (z := (if r3 < v2 then (-1) else if r3 = v2 then 0 else 1)) dX11_back_41 rfl ?_
      refine p_if_gt (tgt := 52) (q := r3 > v2) dX11_back_42 (by decide) (lc_gt r3 v2) (fun hc => ?_) (fun hc => ?_)
      · replace hf := Eq.mp (if_pos hc) hf
        refine p_lload dX11_back_52 0 rfl ?_
        refine p_lconst (z := 1) dX11_back_54 rfl ?_
        refine p_lsub dX11_back_55 ?_
        refine p_lstore (ls' := [(6, vl (w64 (r1 - 1))), (8, vl r1), (0, vr 11 a0 0), (1, vi v1), (2, vl v2), (4, vl v4)]) dX11_back_56 (by decide) rfl ?_
        replace hf := vb_e hf
        generalize (w64 (r1 - 1)) = z5 at hf ⊢
        refine p_sub (ls' := [(0, vr 11 a0 0), (1, vi v1), (2, vl v2), (4, vl v4), (6, vl z5)]) [2, 3, 4, 5, 0] rfl ?_
        exact t_X11_back_58 h0 ih _ _ _ _ _ hf
      · replace hf := Eq.mp (if_neg hc) hf
        refine p_lload dX11_back_45 0 rfl ?_
        refine p_lstore (ls' := [(4, vl r1), (8, vl r1), (0, vr 11 a0 0), (1, vi v1), (2, vl v2), (6, vl v6)]) dX11_back_47 (by decide) rfl ?_
        refine p_goto (tgt := 58) dX11_back_49 (by decide) ?_
        refine p_sub (ls' := [(0, vr 11 a0 0), (1, vi v1), (2, vl v2), (4, vl r1), (6, vl v6)]) [2, 3, 4, 0, 5] rfl ?_
        exact t_X11_back_58 h0 ih _ _ _ _ _ hf
def w_X11_back (a0 x1 x2 : Int) (h : Hh) (K : Int → Hh → Prop) : Prop := w_X11_back_10 K  a0 NF x1 x2 (-4000000000) 4000000000 h
set_option maxRecDepth 100000 in
set_option maxHeartbeats 4000000 in
theorem t_X11_back {G : Gx} (a0 x1 x2 : Int) (h : Hh) (K : Int → Hh → Prop) (h0 : 0 ≤ a0) (hf : w_X11_back a0 x1 x2 h K) : CT G M_X11_back rm_X11_back 0 0 [] [vr 11 a0 0, vi x1, vl x2] h K := by
  unfold w_X11_back at hf
  refine CT.of (ls0 := [(0, vr 11 a0 0), (1, vi x1), (2, vl x2)]) (plainFor_of_name (by decide +kernel)) (by decide +kernel) (Nat.le_of_ble_eq_true rfl) rfl rfl ?_
  refine p_ldc2 (z := (-4000000000)) dX11_back_0 tb_1186 (by decide) ?_
  refine p_lstore (ls' := [(4, vl (-4000000000)), (0, vr 11 a0 0), (1, vi x1), (2, vl x2)]) dX11_back_3 (by decide) rfl ?_
  refine p_ldc2 (z := 4000000000) dX11_back_5 tb_1187 (by decide) ?_
  refine p_lstore (ls' := [(6, vl 4000000000), (4, vl (-4000000000)), (0, vr 11 a0 0), (1, vi x1), (2, vl x2)]) dX11_back_8 (by decide) rfl ?_
  refine p_sub (ls' := [(0, vr 11 a0 0), (1, vi x1), (2, vl x2), (4, vl (-4000000000)), (6, vl 4000000000)]) [2, 3, 4, 1, 0] rfl ?_
  refine t_X11_back_10 h0  NF _ _ _ _ _ hf
theorem ok_X11_back : mOK M_X11_back 2 := ⟨tb_1185, tb_9, by decide +kernel⟩
