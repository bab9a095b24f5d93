abbrev M_X11_end : MD := (yX11_end, cX11_end, 2, some .boolean)
abbrev rm_X11_end : Room := { frames := 1, cells := 0, slots := 0, locals := 25 }
def w_X11_end (a0 x1 : Int) (h : Hh) (K : Int → Hh → Prop) : Prop := w_X11_in x1 0 (h a0 1) h (fun r1 h2 => if r1 ≠ 0 then (hb (up h2 a0 1 x1) fun h3 => K 1 h3) else (K 0 h2))
set_option maxRecDepth 100000 in
set_option maxHeartbeats 4000000 in
theorem t_X11_end {G : Gx} (a0 x1 : Int) (h : Hh) (K : Int → Hh → Prop) (h0 : 0 ≤ a0) (hf : w_X11_end a0 x1 h K) : CT G M_X11_end rm_X11_end 0 0 [] [vr 11 a0 0, vi x1] h K := by
  unfold w_X11_end at hf
  refine CT.of (ls0 := [(0, vr 11 a0 0), (1, vi x1)]) (plainFor_of_name (by decide +kernel)) (by decide +kernel) (Nat.le_of_ble_eq_true rfl) rfl rfl ?_
  refine p_iload_n dX11_end_0 rfl 1 rfl ?_
  refine p_i2l dX11_end_1 ?_
  refine p_lconst (z := 0) dX11_end_2 rfl ?_
  refine p_aload_n dX11_end_3 rfl 0 rfl ?_
  refine p_get (c := 11) (vi (h a0 1)) dX11_end_4 1 tb_894 (by decide) (by decide) (Or.inl rfl) h0 rfl rfl ?_
  refine p_i2l dX11_end_7 ?_
  refine p_callSi dX11_end_8 M_X11_in (Or.inr rfl) [vl x1, vl 0, vl (h a0 1)] (t_X11_in _ _ _ _ _ hf) ok_X11_in rfl tb_1079 tb_1080 rfl (Nat.le_of_ble_eq_true rfl) ⟨rfl, rfl⟩ ⟨by decide, by decide⟩ ⟨by decide, by decide⟩ (fun r1 h2 hf => ?_)
  refine p_if_ne (tgt := 16) (q := r1 ≠ 0) dX11_end_11 (by decide) Iff.rfl (fun hc => ?_) (fun hc => ?_)
  · replace hf := Eq.mp (if_pos hc) hf
    refine p_aload_n dX11_end_16 rfl 0 rfl ?_
    refine p_iload_n dX11_end_17 rfl 1 rfl ?_
    refine p_puti (c := 11) dX11_end_18 1 tb_894 (by decide) (by decide) (Or.inl rfl) h0 rfl rfl (fun _ => by decide) (up h2 a0 1 x1) rfl ?_
    replace hf := hb_e hf
    generalize up h2 a0 1 x1 = h3 at hf ⊢
    refine p_iconst dX11_end_21 (by decide) ?_
    exact p_zret dX11_end_22 rfl (by decide) (by decide) (fun _ h => absurd h List.not_mem_nil) (Or.inr rfl) hf
  · replace hf := Eq.mp (if_neg hc) hf
    refine p_iconst dX11_end_14 (by decide) ?_
    exact p_zret dX11_end_15 rfl (by decide) (by decide) (fun _ h => absurd h List.not_mem_nil) (Or.inl rfl) hf
theorem ok_X11_end : mOK M_X11_end 1 := ⟨tb_1078, tb_9, by decide +kernel⟩
abbrev M_X11_next : MD := (yX11_next, cX11_next, 2, none)
abbrev rm_X11_next : Room := { frames := 0, cells := 0, slots := 0, locals := 0 }
def w_X11_next_0 (K : Int → Hh → Prop) (X38 : Hh → Prop) (a0 : Int) : Nat → Hh → Prop
  | 0, _ => False
  | n + 1, h => if h a0 2 ≥ h a0 1 then (X38  h) else (((0 : Int) ≤ h a0 2 ∧ (h a0 2 : Int) < 120) ∧ (if h (a0 + 1) (h a0 2) ≠ 32 then (X38  h) else (hb (up h a0 2 (w32 ((h a0 2) + 1))) fun h2 => w_X11_next_0 K X38 a0 n  h2)))
set_option maxRecDepth 100000 in
set_option maxHeartbeats 4000000 in
theorem t_X11_next_0 {G : Gx} {n0 : Int} {K : Int → Hh → Prop} {X38 : Hh → Prop} {a0 : Int} (h0 : 0 ≤ a0) (hX38 : ∀ (h : Hh), X38  h → PW G M_X11_next rm_X11_next 0 0 [] n0 K 38 [(0, vr 11 a0 0)] [] [] 0 0 h) : ∀ (n : Nat) (h : Hh), w_X11_next_0 K X38 a0 n  h → PW G M_X11_next rm_X11_next 0 0 [] n0 K 0 [(0, vr 11 a0 0)] [] [] 0 0 h := by
  intro n
  induction n with
  | zero =>
    intro h hf
    rw [w_X11_next_0] at hf
    exact hf.elim
  | succ n ih =>
    intro h hf
    rw [w_X11_next_0] at hf
    refine p_aload_n dX11_next_0 rfl 0 rfl ?_
    refine p_get (c := 11) (vi (h a0 2)) dX11_next_1 2 tb_895 (by decide) (by decide) (Or.inl rfl) h0 rfl rfl ?_
    refine p_aload_n dX11_next_4 rfl 0 rfl ?_
    refine p_get (c := 11) (vi (h a0 1)) dX11_next_5 1 tb_894 (by decide) (by decide) (Or.inl rfl) h0 rfl rfl ?_
    refine p_icmp_ge (tgt := 38) (q := h a0 2 ≥ h a0 1) dX11_next_8 (by decide) Iff.rfl (fun hc => ?_) (fun hc => ?_)
    · replace hf := Eq.mp (if_pos hc) hf
      exact hX38  _ hf
    · replace hf := Eq.mp (if_neg hc) hf
      refine p_aload_n dX11_next_11 rfl 0 rfl ?_
      refine p_lay (c := 11) (tq := 102) (n := 120) dX11_next_12 0 1 tb_893 (by decide) (by decide) h0 (by decide) (by decide) (fun _ => rfl) (vr 102 (a0 + 1) 120) rfl ?_
      refine p_aload_n dX11_next_15 rfl 0 rfl ?_
      refine p_get (c := 11) (vi (h a0 2)) dX11_next_16 2 tb_895 (by decide) (by decide) (Or.inl rfl) h0 rfl rfl ?_
      obtain ⟨c1, hf⟩ := hf
      refine p_bald dX11_next_19 (nnk h0 (by decide)) c1 ?_
      refine p_bipush dX11_next_20 (by decide) (by decide) ?_
      refine p_icmp_ne (tgt := 38) (q := h (a0 + 1) (h a0 2) ≠ 32) dX11_next_22 (by decide) Iff.rfl (fun hc => ?_) (fun hc => ?_)
      · replace hf := Eq.mp (if_pos hc) hf
        exact hX38  _ hf
      · replace hf := Eq.mp (if_neg hc) hf
        refine p_aload_n dX11_next_25 rfl 0 rfl ?_
        refine p_dup dX11_next_26 (fun _ q => by cases q) ?_
        refine p_get (c := 11) (vi (h a0 2)) dX11_next_27 2 tb_895 (by decide) (by decide) (Or.inl rfl) h0 rfl rfl ?_
        refine p_iconst dX11_next_30 (by decide) ?_
        refine p_iadd dX11_next_31 ?_
        refine p_puti (c := 11) dX11_next_32 2 tb_895 (by decide) (by decide) (Or.inl rfl) h0 rfl rfl (fun _ => by decide) (up h a0 2 (w32 ((h a0 2) + 1))) rfl ?_
        replace hf := hb_e hf
        generalize up h a0 2 (w32 ((h a0 2) + 1)) = h2 at hf ⊢
        refine p_goto (tgt := 0) dX11_next_35 (by decide) ?_
        exact ih  _ hf
def w_X11_next_246 (K : Int → Hh → Prop) (a0 : Int) (v1 s0 s1 : Int) (h : Hh) : Prop := 0 ≤ s1 ∧ (hb (up h s1 3 s0) fun h10 => hb (up h10 a0 5 v1) fun h11 => hb (up h11 a0 2 (w32 ((h11 a0 2) + 1))) fun h12 => K 0 h12)
set_option maxRecDepth 100000 in
set_option maxHeartbeats 4000000 in
theorem t_X11_next_246 {G : Gx} {n0 : Int} {K : Int → Hh → Prop} {a0 : Int} (h0 : 0 ≤ a0)  (v1 s0 s1 : Int) (h : Hh) (hf : w_X11_next_246 K  a0 v1 s0 s1 h) : PW G M_X11_next rm_X11_next 0 0 [] n0 K 246 [(0, vr 11 a0 0), (1, vi v1)] [vi s0, vr 11 s1 0] [] 0 0 h := by
  unfold w_X11_next_246 at hf
  obtain ⟨c9, hf⟩ := hf
  refine p_puti (c := 11) dX11_next_246 3 tb_896 (by decide) (by decide) (Or.inl rfl) c9 rfl rfl (fun _ => by decide) (up h s1 3 s0) rfl ?_
  replace hf := hb_e hf
  generalize up h s1 3 s0 = h10 at hf ⊢
  refine p_aload_n dX11_next_249 rfl 0 rfl ?_
  refine p_iload_n dX11_next_250 rfl 1 rfl ?_
  refine p_puti (c := 11) dX11_next_251 5 tb_898 (by decide) (by decide) (Or.inl rfl) h0 rfl rfl (fun _ => by decide) (up h10 a0 5 v1) rfl ?_
  replace hf := hb_e hf
  generalize up h10 a0 5 v1 = h11 at hf ⊢
  refine p_aload_n dX11_next_254 rfl 0 rfl ?_
  refine p_dup dX11_next_255 (fun _ q => by cases q) ?_
  refine p_get (c := 11) (vi (h11 a0 2)) dX11_next_256 2 tb_895 (by decide) (by decide) (Or.inl rfl) h0 rfl rfl ?_
  refine p_iconst dX11_next_259 (by decide) ?_
  refine p_iadd dX11_next_260 ?_
  refine p_puti (c := 11) dX11_next_261 2 tb_895 (by decide) (by decide) (Or.inl rfl) h0 rfl rfl (fun _ => by decide) (up h11 a0 2 (w32 ((h11 a0 2) + 1))) rfl ?_
  replace hf := hb_e hf
  generalize up h11 a0 2 (w32 ((h11 a0 2) + 1)) = h12 at hf ⊢
  exact p_vret dX11_next_264 rfl (by decide) (by decide) (fun _ h => absurd h List.not_mem_nil) hf
def w_X11_next_241 (K : Int → Hh → Prop) (a0 : Int) (v1 s0 : Int) (h : Hh) : Prop := w_X11_next_246 K  a0 v1 3 s0 h
set_option maxRecDepth 100000 in
set_option maxHeartbeats 4000000 in
theorem t_X11_next_241 {G : Gx} {n0 : Int} {K : Int → Hh → Prop} {a0 : Int} (h0 : 0 ≤ a0)  (v1 s0 : Int) (h : Hh) (hf : w_X11_next_241 K  a0 v1 s0 h) : PW G M_X11_next rm_X11_next 0 0 [] n0 K 241 [(0, vr 11 a0 0), (1, vi v1)] [vr 11 s0 0] [] 0 0 h := by
  unfold w_X11_next_241 at hf
  refine p_iconst dX11_next_241 (by decide) ?_
  refine p_goto (tgt := 246) dX11_next_242 (by decide) ?_
  exact t_X11_next_246 h0  _ _ _ _ hf
def w_X11_next_205 (K : Int → Hh → Prop) (a0 : Int) (v1 s0 : Int) (h : Hh) : Prop := if v1 = 61 then (w_X11_next_241 K  a0 v1 s0 h) else (if v1 = 43 then (w_X11_next_241 K  a0 v1 s0 h) else (if v1 = 45 then (w_X11_next_241 K  a0 v1 s0 h) else (if v1 = 42 then (w_X11_next_241 K  a0 v1 s0 h) else (if v1 = 47 then (w_X11_next_241 K  a0 v1 s0 h) else (if v1 ≠ 59 then (w_X11_next_246 K  a0 v1 4 s0 h) else (w_X11_next_241 K  a0 v1 s0 h))))))
set_option maxRecDepth 100000 in
set_option maxHeartbeats 4000000 in
theorem t_X11_next_205 {G : Gx} {n0 : Int} {K : Int → Hh → Prop} {a0 : Int} (h0 : 0 ≤ a0)  (v1 s0 : Int) (h : Hh) (hf : w_X11_next_205 K  a0 v1 s0 h) : PW G M_X11_next rm_X11_next 0 0 [] n0 K 205 [(0, vr 11 a0 0), (1, vi v1)] [vr 11 s0 0] [] 0 0 h := by
  unfold w_X11_next_205 at hf
  refine p_iload_n dX11_next_205 rfl 1 rfl ?_
  refine p_bipush dX11_next_206 (by decide) (by decide) ?_
  refine p_icmp_eq (tgt := 241) (q := v1 = 61) dX11_next_208 (by decide) Iff.rfl (fun hc => ?_) (fun hc => ?_)
  · replace hf := Eq.mp (if_pos hc) hf
    exact t_X11_next_241 h0  _ _ _ hf
  · replace hf := Eq.mp (if_neg hc) hf
    refine p_iload_n dX11_next_211 rfl 1 rfl ?_
    refine p_bipush dX11_next_212 (by decide) (by decide) ?_
    refine p_icmp_eq (tgt := 241) (q := v1 = 43) dX11_next_214 (by decide) Iff.rfl (fun hc => ?_) (fun hc => ?_)
    · replace hf := Eq.mp (if_pos hc) hf
      exact t_X11_next_241 h0  _ _ _ hf
    · replace hf := Eq.mp (if_neg hc) hf
      refine p_iload_n dX11_next_217 rfl 1 rfl ?_
      refine p_bipush dX11_next_218 (by decide) (by decide) ?_
      refine p_icmp_eq (tgt := 241) (q := v1 = 45) dX11_next_220 (by decide) Iff.rfl (fun hc => ?_) (fun hc => ?_)
      · replace hf := Eq.mp (if_pos hc) hf
        exact t_X11_next_241 h0  _ _ _ hf
      · replace hf := Eq.mp (if_neg hc) hf
        refine p_iload_n dX11_next_223 rfl 1 rfl ?_
        refine p_bipush dX11_next_224 (by decide) (by decide) ?_
        refine p_icmp_eq (tgt := 241) (q := v1 = 42) dX11_next_226 (by decide) Iff.rfl (fun hc => ?_) (fun hc => ?_)
        · replace hf := Eq.mp (if_pos hc) hf
          exact t_X11_next_241 h0  _ _ _ hf
        · replace hf := Eq.mp (if_neg hc) hf
          refine p_iload_n dX11_next_229 rfl 1 rfl ?_
          refine p_bipush dX11_next_230 (by decide) (by decide) ?_
          refine p_icmp_eq (tgt := 241) (q := v1 = 47) dX11_next_232 (by decide) Iff.rfl (fun hc => ?_) (fun hc => ?_)
          · replace hf := Eq.mp (if_pos hc) hf
            exact t_X11_next_241 h0  _ _ _ hf
          · replace hf := Eq.mp (if_neg hc) hf
            refine p_iload_n dX11_next_235 rfl 1 rfl ?_
            refine p_bipush dX11_next_236 (by decide) (by decide) ?_
            refine p_icmp_ne (tgt := 245) (q := v1 ≠ 59) dX11_next_238 (by decide) Iff.rfl (fun hc => ?_) (fun hc => ?_)
            · replace hf := Eq.mp (if_pos hc) hf
              refine p_iconst dX11_next_245 (by decide) ?_
              exact t_X11_next_246 h0  _ _ _ _ hf
            · replace hf := Eq.mp (if_neg hc) hf
              exact t_X11_next_241 h0  _ _ _ hf
def w_X11_next_188 (K : Int → Hh → Prop) (a0 : Int) (v1 : Int) (h : Hh) : Prop := if v1 < 97 then (w_X11_next_205 K  a0 v1 a0 h) else (if v1 > 122 then (w_X11_next_205 K  a0 v1 a0 h) else (w_X11_next_246 K  a0 v1 1 a0 h))
set_option maxRecDepth 100000 in
set_option maxHeartbeats 4000000 in
theorem t_X11_next_188 {G : Gx} {n0 : Int} {K : Int → Hh → Prop} {a0 : Int} (h0 : 0 ≤ a0)  (v1 : Int) (h : Hh) (hf : w_X11_next_188 K  a0 v1 h) : PW G M_X11_next rm_X11_next 0 0 [] n0 K 188 [(0, vr 11 a0 0), (1, vi v1)] [] [] 0 0 h := by
  unfold w_X11_next_188 at hf
  refine p_aload_n dX11_next_188 rfl 0 rfl ?_
  refine p_iload_n dX11_next_189 rfl 1 rfl ?_
  refine p_bipush dX11_next_190 (by decide) (by decide) ?_
  refine p_icmp_lt (tgt := 205) (q := v1 < 97) dX11_next_192 (by decide) Iff.rfl (fun hc => ?_) (fun hc => ?_)
  · replace hf := Eq.mp (if_pos hc) hf
    exact t_X11_next_205 h0  _ _ _ hf
  · replace hf := Eq.mp (if_neg hc) hf
    refine p_iload_n dX11_next_195 rfl 1 rfl ?_
    refine p_bipush dX11_next_196 (by decide) (by decide) ?_
    refine p_icmp_gt (tgt := 205) (q := v1 > 122) dX11_next_198 (by decide) Iff.rfl (fun hc => ?_) (fun hc => ?_)
    · replace hf := Eq.mp (if_pos hc) hf
      exact t_X11_next_205 h0  _ _ _ hf
    · replace hf := Eq.mp (if_neg hc) hf
      refine p_iconst dX11_next_201 (by decide) ?_
      refine p_goto (tgt := 246) dX11_next_202 (by decide) ?_
      exact t_X11_next_246 h0  _ _ _ _ hf
def w_X11_next_166 (K : Int → Hh → Prop) (B : Hh → Prop) (X182 : Hh → Prop) (a0 : Int) (s0 s1 : Int) (h : Hh) : Prop := 0 ≤ s1 ∧ (hb (up h s1 5 s0) fun h15 => hb (up h15 a0 2 (w32 ((h15 a0 2) + 1))) fun h16 => B  h16)
set_option maxRecDepth 100000 in
set_option maxHeartbeats 4000000 in
theorem t_X11_next_166 {G : Gx} {n0 : Int} {K : Int → Hh → Prop} {B : Hh → Prop} {X182 : Hh → Prop} {a0 : Int} (h0 : 0 ≤ a0) (hB : ∀ (h : Hh), B  h → PW G M_X11_next rm_X11_next 0 0 [] n0 K 90 [(0, vr 11 a0 0)] [] [] 0 0 h) (hX182 : ∀ (h : Hh), X182  h → PW G M_X11_next rm_X11_next 0 0 [] n0 K 182 [(0, vr 11 a0 0)] [] [] 0 0 h)  (s0 s1 : Int) (h : Hh) (hf : w_X11_next_166 K B X182 a0 s0 s1 h) : PW G M_X11_next rm_X11_next 0 0 [] n0 K 166 [(0, vr 11 a0 0)] [vi s0, vr 11 s1 0] [] 0 0 h := by
  unfold w_X11_next_166 at hf
  obtain ⟨c14, hf⟩ := hf
  refine p_puti (c := 11) dX11_next_166 5 tb_898 (by decide) (by decide) (Or.inl rfl) c14 rfl rfl (fun _ => by decide) (up h s1 5 s0) rfl ?_
  replace hf := hb_e hf
  generalize up h s1 5 s0 = h15 at hf ⊢
  refine p_aload_n dX11_next_169 rfl 0 rfl ?_
  refine p_dup dX11_next_170 (fun _ q => by cases q) ?_
  refine p_get (c := 11) (vi (h15 a0 2)) dX11_next_171 2 tb_895 (by decide) (by decide) (Or.inl rfl) h0 rfl rfl ?_
  refine p_iconst dX11_next_174 (by decide) ?_
  refine p_iadd dX11_next_175 ?_
  refine p_puti (c := 11) dX11_next_176 2 tb_895 (by decide) (by decide) (Or.inl rfl) h0 rfl rfl (fun _ => by decide) (up h15 a0 2 (w32 ((h15 a0 2) + 1))) rfl ?_
  replace hf := hb_e hf
  generalize up h15 a0 2 (w32 ((h15 a0 2) + 1)) = h16 at hf ⊢
  refine p_goto (tgt := 90) dX11_next_179 (by decide) ?_
  exact hB  _ hf
def w_X11_next_90 (K : Int → Hh → Prop) (X182 : Hh → Prop) (a0 : Int) : Nat → Hh → Prop
  | 0, _ => False
  | n + 1, h => if h a0 2 ≥ h a0 1 then (X182  h) else (((0 : Int) ≤ h a0 2 ∧ (h a0 2 : Int) < 120) ∧ (if h (a0 + 1) (h a0 2) < 48 then (X182  h) else (if h (a0 + 1) (h a0 2) > 57 then (X182  h) else (if h a0 5 ≤ 99999 then (w_X11_next_166 K (w_X11_next_90 K X182 a0 n) X182 a0 (w32 ((w32 ((w32 (10 * (h a0 5))) + (h (a0 + 1) (h a0 2)))) - 48)) a0 h) else (w_X11_next_166 K (w_X11_next_90 K X182 a0 n) X182 a0 (h a0 5) a0 h)))))
set_option maxRecDepth 100000 in
set_option maxHeartbeats 4000000 in
theorem t_X11_next_90 {G : Gx} {n0 : Int} {K : Int → Hh → Prop} {X182 : Hh → Prop} {a0 : Int} (h0 : 0 ≤ a0) (hX182 : ∀ (h : Hh), X182  h → PW G M_X11_next rm_X11_next 0 0 [] n0 K 182 [(0, vr 11 a0 0)] [] [] 0 0 h) : ∀ (n : Nat) (h : Hh), w_X11_next_90 K X182 a0 n  h → PW G M_X11_next rm_X11_next 0 0 [] n0 K 90 [(0, vr 11 a0 0)] [] [] 0 0 h := by
  intro n
  induction n with
  | zero =>
    intro h hf
    rw [w_X11_next_90] at hf
    exact hf.elim
  | succ n ih =>
    intro h hf
    rw [w_X11_next_90] at hf
    refine p_aload_n dX11_next_90 rfl 0 rfl ?_
    refine p_get (c := 11) (vi (h a0 2)) dX11_next_91 2 tb_895 (by decide) (by decide) (Or.inl rfl) h0 rfl rfl ?_
    refine p_aload_n dX11_next_94 rfl 0 rfl ?_
    refine p_get (c := 11) (vi (h a0 1)) dX11_next_95 1 tb_894 (by decide) (by decide) (Or.inl rfl) h0 rfl rfl ?_
    refine p_icmp_ge (tgt := 182) (q := h a0 2 ≥ h a0 1) dX11_next_98 (by decide) Iff.rfl (fun hc => ?_) (fun hc => ?_)
    · replace hf := Eq.mp (if_pos hc) hf
      exact hX182  _ hf
    · replace hf := Eq.mp (if_neg hc) hf
      refine p_aload_n dX11_next_101 rfl 0 rfl ?_
      refine p_lay (c := 11) (tq := 102) (n := 120) dX11_next_102 0 1 tb_893 (by decide) (by decide) h0 (by decide) (by decide) (fun _ => rfl) (vr 102 (a0 + 1) 120) rfl ?_
      refine p_aload_n dX11_next_105 rfl 0 rfl ?_
      refine p_get (c := 11) (vi (h a0 2)) dX11_next_106 2 tb_895 (by decide) (by decide) (Or.inl rfl) h0 rfl rfl ?_
      obtain ⟨c13, hf⟩ := hf
      refine p_bald dX11_next_109 (nnk h0 (by decide)) c13 ?_
      refine p_bipush dX11_next_110 (by decide) (by decide) ?_
      refine p_icmp_lt (tgt := 182) (q := h (a0 + 1) (h a0 2) < 48) dX11_next_112 (by decide) Iff.rfl (fun hc => ?_) (fun hc => ?_)
      · replace hf := Eq.mp (if_pos hc) hf
        exact hX182  _ hf
      · replace hf := Eq.mp (if_neg hc) hf
        refine p_aload_n dX11_next_115 rfl 0 rfl ?_
        refine p_lay (c := 11) (tq := 102) (n := 120) dX11_next_116 0 1 tb_893 (by decide) (by decide) h0 (by decide) (by decide) (fun _ => rfl) (vr 102 (a0 + 1) 120) rfl ?_
        refine p_aload_n dX11_next_119 rfl 0 rfl ?_
        refine p_get (c := 11) (vi (h a0 2)) dX11_next_120 2 tb_895 (by decide) (by decide) (Or.inl rfl) h0 rfl rfl ?_
        refine p_bald dX11_next_123 (nnk h0 (by decide)) c13 ?_
        refine p_bipush dX11_next_124 (by decide) (by decide) ?_
        refine p_icmp_gt (tgt := 182) (q := h (a0 + 1) (h a0 2) > 57) dX11_next_126 (by decide) Iff.rfl (fun hc => ?_) (fun hc => ?_)
        · replace hf := Eq.mp (if_pos hc) hf
          exact hX182  _ hf
        · replace hf := Eq.mp (if_neg hc) hf
          refine p_aload_n dX11_next_129 rfl 0 rfl ?_
          refine p_aload_n dX11_next_130 rfl 0 rfl ?_
          refine p_get (c := 11) (vi (h a0 5)) dX11_next_131 5 tb_898 (by decide) (by decide) (Or.inl rfl) h0 rfl rfl ?_
          refine p_ldc (z := 99999) dX11_next_134 tb_1094 (by decide) ?_
          refine p_icmp_le (tgt := 146) (q := h a0 5 ≤ 99999) dX11_next_136 (by decide) Iff.rfl (fun hc => ?_) (fun hc => ?_)
          · replace hf := Eq.mp (if_pos hc) hf
            refine p_bipush dX11_next_146 (by decide) (by decide) ?_
            refine p_aload_n dX11_next_148 rfl 0 rfl ?_
            refine p_get (c := 11) (vi (h a0 5)) dX11_next_149 5 tb_898 (by decide) (by decide) (Or.inl rfl) h0 rfl rfl ?_
            refine p_imul dX11_next_152 ?_
            refine p_aload_n dX11_next_153 rfl 0 rfl ?_
            refine p_lay (c := 11) (tq := 102) (n := 120) dX11_next_154 0 1 tb_893 (by decide) (by decide) h0 (by decide) (by decide) (fun _ => rfl) (vr 102 (a0 + 1) 120) rfl ?_
            refine p_aload_n dX11_next_157 rfl 0 rfl ?_
            refine p_get (c := 11) (vi (h a0 2)) dX11_next_158 2 tb_895 (by decide) (by decide) (Or.inl rfl) h0 rfl rfl ?_
            refine p_bald dX11_next_161 (nnk h0 (by decide)) c13 ?_
            refine p_iadd dX11_next_162 ?_
            refine p_bipush dX11_next_163 (by decide) (by decide) ?_
            refine p_isub dX11_next_165 ?_
            exact t_X11_next_166 h0 ih hX182 _ _ _ hf
          · replace hf := Eq.mp (if_neg hc) hf
            refine p_aload_n dX11_next_139 rfl 0 rfl ?_
            refine p_get (c := 11) (vi (h a0 5)) dX11_next_140 5 tb_898 (by decide) (by decide) (Or.inl rfl) h0 rfl rfl ?_
            refine p_goto (tgt := 166) dX11_next_143 (by decide) ?_
            exact t_X11_next_166 h0 ih hX182 _ _ _ hf
def w_X11_next_182 (K : Int → Hh → Prop) (a0 : Int) (h : Hh) : Prop := hb (up h a0 3 2) fun h18 => K 0 h18
set_option maxRecDepth 100000 in
set_option maxHeartbeats 4000000 in
theorem t_X11_next_182 {G : Gx} {n0 : Int} {K : Int → Hh → Prop} {a0 : Int} (h0 : 0 ≤ a0)  (h : Hh) (hf : w_X11_next_182 K  a0  h) : PW G M_X11_next rm_X11_next 0 0 [] n0 K 182 [(0, vr 11 a0 0)] [] [] 0 0 h := by
  unfold w_X11_next_182 at hf
  refine p_aload_n dX11_next_182 rfl 0 rfl ?_
  refine p_iconst dX11_next_183 (by decide) ?_
  refine p_puti (c := 11) dX11_next_184 3 tb_896 (by decide) (by decide) (Or.inl rfl) h0 rfl rfl (fun _ => by decide) (up h a0 3 2) rfl ?_
  replace hf := hb_e hf
  generalize up h a0 3 2 = h18 at hf ⊢
  exact p_vret dX11_next_187 rfl (by decide) (by decide) (fun _ h => absurd h List.not_mem_nil) hf
def w_X11_next_38 (K : Int → Hh → Prop) (a0 : Int) (h : Hh) : Prop := hb (up h a0 4 (h a0 2)) fun h4 => hb (up h4 a0 3 0) fun h5 => hb (up h5 a0 5 0) fun h6 => if h6 a0 2 ≠ h6 a0 1 then (((0 : Int) ≤ h6 a0 2 ∧ (h6 a0 2 : Int) < 120) ∧ (vb (h6 (a0 + 1) (h6 a0 2)) fun z8 => if z8 < 48 then (w_X11_next_188 K  a0 z8 h6) else (if z8 > 57 then (w_X11_next_188 K  a0 z8 h6) else (w_X11_next_90 K (fun h17 => w_X11_next_182 K  a0  h17) a0 NF  h6)))) else (K 0 h6)
set_option maxRecDepth 100000 in
set_option maxHeartbeats 4000000 in
theorem t_X11_next_38 {G : Gx} {n0 : Int} {K : Int → Hh → Prop} {a0 : Int} (h0 : 0 ≤ a0)  (h : Hh) (hf : w_X11_next_38 K  a0  h) : PW G M_X11_next rm_X11_next 0 0 [] n0 K 38 [(0, vr 11 a0 0)] [] [] 0 0 h := by
  unfold w_X11_next_38 at hf
  refine p_aload_n dX11_next_38 rfl 0 rfl ?_
  refine p_aload_n dX11_next_39 rfl 0 rfl ?_
  refine p_get (c := 11) (vi (h a0 2)) dX11_next_40 2 tb_895 (by decide) (by decide) (Or.inl rfl) h0 rfl rfl ?_
  refine p_puti (c := 11) dX11_next_43 4 tb_897 (by decide) (by decide) (Or.inl rfl) h0 rfl rfl (fun _ => by decide) (up h a0 4 (h a0 2)) rfl ?_
  replace hf := hb_e hf
  generalize up h a0 4 (h a0 2) = h4 at hf ⊢
  refine p_aload_n dX11_next_46 rfl 0 rfl ?_
  refine p_iconst dX11_next_47 (by decide) ?_
  refine p_puti (c := 11) dX11_next_48 3 tb_896 (by decide) (by decide) (Or.inl rfl) h0 rfl rfl (fun _ => by decide) (up h4 a0 3 0) rfl ?_
  replace hf := hb_e hf
  generalize up h4 a0 3 0 = h5 at hf ⊢
  refine p_aload_n dX11_next_51 rfl 0 rfl ?_
  refine p_iconst dX11_next_52 (by decide) ?_
  refine p_puti (c := 11) dX11_next_53 5 tb_898 (by decide) (by decide) (Or.inl rfl) h0 rfl rfl (fun _ => by decide) (up h5 a0 5 0) rfl ?_
  replace hf := hb_e hf
  generalize up h5 a0 5 0 = h6 at hf ⊢
  refine p_aload_n dX11_next_56 rfl 0 rfl ?_
  refine p_get (c := 11) (vi (h6 a0 2)) dX11_next_57 2 tb_895 (by decide) (by decide) (Or.inl rfl) h0 rfl rfl ?_
  refine p_aload_n dX11_next_60 rfl 0 rfl ?_
  refine p_get (c := 11) (vi (h6 a0 1)) dX11_next_61 1 tb_894 (by decide) (by decide) (Or.inl rfl) h0 rfl rfl ?_
  refine p_icmp_ne (tgt := 68) (q := h6 a0 2 ≠ h6 a0 1) dX11_next_64 (by decide) Iff.rfl (fun hc => ?_) (fun hc => ?_)
  · replace hf := Eq.mp (if_pos hc) hf
    refine p_aload_n dX11_next_68 rfl 0 rfl ?_
    refine p_lay (c := 11) (tq := 102) (n := 120) dX11_next_69 0 1 tb_893 (by decide) (by decide) h0 (by decide) (by decide) (fun _ => rfl) (vr 102 (a0 + 1) 120) rfl ?_
    refine p_aload_n dX11_next_72 rfl 0 rfl ?_
    refine p_get (c := 11) (vi (h6 a0 2)) dX11_next_73 2 tb_895 (by decide) (by decide) (Or.inl rfl) h0 rfl rfl ?_
    obtain ⟨c7, hf⟩ := hf
    refine p_bald dX11_next_76 (nnk h0 (by decide)) c7 ?_
    refine p_istore_n (ls' := [(1, vi (h6 (a0 + 1) (h6 a0 2))), (0, vr 11 a0 0)]) dX11_next_77 rfl (by decide) rfl ?_
    replace hf := vb_e hf
    generalize (h6 (a0 + 1) (h6 a0 2)) = z8 at hf ⊢
    refine p_iload_n dX11_next_78 rfl 0 rfl ?_
    refine p_bipush dX11_next_79 (by decide) (by decide) ?_
    refine p_icmp_lt (tgt := 188) (q := z8 < 48) dX11_next_81 (by decide) Iff.rfl (fun hc => ?_) (fun hc => ?_)
    · replace hf := Eq.mp (if_pos hc) hf
      refine p_sub (ls' := [(0, vr 11 a0 0), (1, vi z8)]) [1, 0] rfl ?_
      exact t_X11_next_188 h0  _ _ hf
    · replace hf := Eq.mp (if_neg hc) hf
      refine p_iload_n dX11_next_84 rfl 0 rfl ?_
      refine p_bipush dX11_next_85 (by decide) (by decide) ?_
      refine p_icmp_gt (tgt := 188) (q := z8 > 57) dX11_next_87 (by decide) Iff.rfl (fun hc => ?_) (fun hc => ?_)
      · replace hf := Eq.mp (if_pos hc) hf
        refine p_sub (ls' := [(0, vr 11 a0 0), (1, vi z8)]) [1, 0] rfl ?_
        exact t_X11_next_188 h0  _ _ hf
      · replace hf := Eq.mp (if_neg hc) hf
        refine p_sub (ls' := [(0, vr 11 a0 0)]) [1] rfl ?_
        refine t_X11_next_90 h0 ?_ NF  _ hf
        · intro h17 hf
          exact t_X11_next_182 h0   _ hf
  · replace hf := Eq.mp (if_neg hc) hf
    exact p_vret dX11_next_67 rfl (by decide) (by decide) (fun _ h => absurd h List.not_mem_nil) hf
def w_X11_next (a0 : Int) (h : Hh) (K : Int → Hh → Prop) : Prop := w_X11_next_0 K (fun h3 => w_X11_next_38 K  a0  h3) a0 NF  h
set_option maxRecDepth 100000 in
set_option maxHeartbeats 4000000 in
theorem t_X11_next {G : Gx} (a0 : Int) (h : Hh) (K : Int → Hh → Prop) (h0 : 0 ≤ a0) (hf : w_X11_next a0 h K) : CT G M_X11_next rm_X11_next 0 0 [] [vr 11 a0 0] h K := by
  unfold w_X11_next at hf
  refine CT.of (ls0 := [(0, vr 11 a0 0)]) (plainFor_of_name (by decide +kernel)) (by decide +kernel) (Nat.le_of_ble_eq_true rfl) rfl rfl ?_
  refine t_X11_next_0 h0 ?_ NF  _ hf
  · intro h3 hf
    exact t_X11_next_38 h0   _ hf
theorem ok_X11_next : mOK M_X11_next 0 := ⟨tb_1093, tb_9, by decide +kernel⟩
abbrev M_X11_isSign : MD := (yX11_isSign, cX11_isSign, 2, some .boolean)
abbrev rm_X11_isSign : Room := { frames := 0, cells := 0, slots := 0, locals := 0 }
def w_X11_isSign_21 (K : Int → Hh → Prop) (a0 : Int) (s0 : Int) (h : Hh) : Prop := (s0 = 0 ∨ s0 = 1) ∧ (K s0 h)
set_option maxRecDepth 100000 in
set_option maxHeartbeats 4000000 in
theorem t_X11_isSign_21 {G : Gx} {n0 : Int} {K : Int → Hh → Prop} {a0 : Int} (h0 : 0 ≤ a0)  (s0 : Int) (h : Hh) (hf : w_X11_isSign_21 K  a0 s0 h) : PW G M_X11_isSign rm_X11_isSign 0 0 [] n0 K 21 [] [vi s0] [] 0 0 h := by
  unfold w_X11_isSign_21 at hf
  obtain ⟨c1, hf⟩ := hf
  exact p_zret dX11_isSign_21 rfl (by decide) (by decide) (fun _ h => absurd h List.not_mem_nil) c1 hf
def w_X11_isSign_20 (K : Int → Hh → Prop) (a0 : Int) (h : Hh) : Prop := w_X11_isSign_21 K  a0 0 h
set_option maxRecDepth 100000 in
set_option maxHeartbeats 4000000 in
theorem t_X11_isSign_20 {G : Gx} {n0 : Int} {K : Int → Hh → Prop} {a0 : Int} (h0 : 0 ≤ a0)  (h : Hh) (hf : w_X11_isSign_20 K  a0  h) : PW G M_X11_isSign rm_X11_isSign 0 0 [] n0 K 20 [] [] [] 0 0 h := by
  unfold w_X11_isSign_20 at hf
  refine p_iconst dX11_isSign_20 (by decide) ?_
  exact t_X11_isSign_21 h0  _ _ hf
def w_X11_isSign (a0 x1 : Int) (h : Hh) (K : Int → Hh → Prop) : Prop := if h a0 3 ≠ 3 then (w_X11_isSign_20 K  a0  h) else (if h a0 5 ≠ x1 then (w_X11_isSign_20 K  a0  h) else (w_X11_isSign_21 K  a0 1 h))
set_option maxRecDepth 100000 in
set_option maxHeartbeats 4000000 in
theorem t_X11_isSign {G : Gx} (a0 x1 : Int) (h : Hh) (K : Int → Hh → Prop) (h0 : 0 ≤ a0) (hf : w_X11_isSign a0 x1 h K) : CT G M_X11_isSign rm_X11_isSign 0 0 [] [vr 11 a0 0, vi x1] h K := by
  unfold w_X11_isSign at hf
  refine CT.of (ls0 := [(0, vr 11 a0 0), (1, vi x1)]) (plainFor_of_name (by decide +kernel)) (by decide +kernel) (Nat.le_of_ble_eq_true rfl) rfl rfl ?_
  refine p_aload_n dX11_isSign_0 rfl 0 rfl ?_
  refine p_get (c := 11) (vi (h a0 3)) dX11_isSign_1 3 tb_896 (by decide) (by decide) (Or.inl rfl) h0 rfl rfl ?_
  refine p_iconst dX11_isSign_4 (by decide) ?_
  refine p_icmp_ne (tgt := 20) (q := h a0 3 ≠ 3) dX11_isSign_5 (by decide) Iff.rfl (fun hc => ?_) (fun hc => ?_)
  · replace hf := Eq.mp (if_pos hc) hf
    refine p_sub (ls' := []) [] rfl ?_
    exact t_X11_isSign_20 h0   _ hf
  · replace hf := Eq.mp (if_neg hc) hf
    refine p_aload_n dX11_isSign_8 rfl 0 rfl ?_
    refine p_get (c := 11) (vi (h a0 5)) dX11_isSign_9 5 tb_898 (by decide) (by decide) (Or.inl rfl) h0 rfl rfl ?_
    refine p_iload_n dX11_isSign_12 rfl 1 rfl ?_
    refine p_icmp_ne (tgt := 20) (q := h a0 5 ≠ x1) dX11_isSign_13 (by decide) Iff.rfl (fun hc => ?_) (fun hc => ?_)
    · replace hf := Eq.mp (if_pos hc) hf
      refine p_sub (ls' := []) [] rfl ?_
      exact t_X11_isSign_20 h0   _ hf
    · replace hf := Eq.mp (if_neg hc) hf
      refine p_iconst dX11_isSign_16 (by decide) ?_
      refine p_goto (tgt := 21) dX11_isSign_17 (by decide) ?_
      refine p_sub (ls' := []) [] rfl ?_
      exact t_X11_isSign_21 h0  _ _ hf
theorem ok_X11_isSign : mOK M_X11_isSign 1 := ⟨tb_1106, tb_9, by decide +kernel⟩
abbrev M_X11_isNew : MD := (yX11_isNew, cX11_isNew, 2, some .boolean)
abbrev rm_X11_isNew : Room := { frames := 0, cells := 0, slots := 0, locals := 0 }
def w_X11_isNew_12 (K : Int → Hh → Prop) (a0 : Int) : Nat → Int → Hh → Prop
  | 0, _, _ => False
  | n + 1, v1, h => if v1 ≥ h a0 6 then (K 1 h) else (((0 : Int) ≤ v1 ∧ (v1 : Int) < 5) ∧ (if h (a0 + 2) v1 ≠ h a0 5 then (vb (w32 (v1 + 1)) fun z2 => w_X11_isNew_12 K  a0 n z2 h) else (K 0 h)))
set_option maxRecDepth 100000 in
set_option maxHeartbeats 4000000 in
theorem t_X11_isNew_12 {G : Gx} {n0 : Int} {K : Int → Hh → Prop} {a0 : Int} (h0 : 0 ≤ a0) : ∀ (n : Nat) (v1 : Int) (h : Hh), w_X11_isNew_12 K  a0 n v1 h → PW G M_X11_isNew rm_X11_isNew 0 0 [] n0 K 12 [(0, vr 11 a0 0), (1, vi v1)] [] [] 0 0 h := by
  intro n
  induction n with
  | zero =>
    intro v1 h hf
    rw [w_X11_isNew_12] at hf
    exact hf.elim
  | succ n ih =>
    intro v1 h hf
    rw [w_X11_isNew_12] at hf
    refine p_iload_n dX11_isNew_12 rfl 1 rfl ?_
    refine p_aload_n dX11_isNew_13 rfl 0 rfl ?_
    refine p_get (c := 11) (vi (h a0 6)) dX11_isNew_14 6 tb_899 (by decide) (by decide) (Or.inl rfl) h0 rfl rfl ?_
    refine p_icmp_ge (tgt := 41) (q := v1 ≥ h a0 6) dX11_isNew_17 (by decide) Iff.rfl (fun hc => ?_) (fun hc => ?_)
    · replace hf := Eq.mp (if_pos hc) hf
      refine p_iconst dX11_isNew_41 (by decide) ?_
      exact p_zret dX11_isNew_42 rfl (by decide) (by decide) (fun _ h => absurd h List.not_mem_nil) (Or.inr rfl) hf
    · replace hf := Eq.mp (if_neg hc) hf
      refine p_aload_n dX11_isNew_20 rfl 0 rfl ?_
      refine p_lay (c := 11) (tq := 100) (n := 5) dX11_isNew_21 7 2 tb_900 (by decide) (by decide) h0 (by decide) (by decide) (fun _ => rfl) (vr 100 (a0 + 2) 5) rfl ?_
      refine p_iload_n dX11_isNew_24 rfl 1 rfl ?_
      obtain ⟨c1, hf⟩ := hf
      refine p_iald dX11_isNew_25 (nnk h0 (by decide)) c1 ?_
      refine p_aload_n dX11_isNew_26 rfl 0 rfl ?_
      refine p_get (c := 11) (vi (h a0 5)) dX11_isNew_27 5 tb_898 (by decide) (by decide) (Or.inl rfl) h0 rfl rfl ?_
      refine p_icmp_ne (tgt := 35) (q := h (a0 + 2) v1 ≠ h a0 5) dX11_isNew_30 (by decide) Iff.rfl (fun hc => ?_) (fun hc => ?_)
      · replace hf := Eq.mp (if_pos hc) hf
        refine p_iinc (ls' := [(1, vi (w32 (v1 + 1))), (0, vr 11 a0 0)]) dX11_isNew_35 1 rfl (by decide) rfl ?_
        replace hf := vb_e hf
        generalize w32 (v1 + 1) = z2 at hf ⊢
        refine p_goto (tgt := 12) dX11_isNew_38 (by decide) ?_
        refine p_sub (ls' := [(0, vr 11 a0 0), (1, vi z2)]) [1, 0] rfl ?_
        exact ih _ _ hf
      · replace hf := Eq.mp (if_neg hc) hf
        refine p_iconst dX11_isNew_33 (by decide) ?_
        exact p_zret dX11_isNew_34 rfl (by decide) (by decide) (fun _ h => absurd h List.not_mem_nil) (Or.inl rfl) hf
def w_X11_isNew (a0 : Int) (h : Hh) (K : Int → Hh → Prop) : Prop := if h a0 3 = 1 then (w_X11_isNew_12 K  a0 NF 0 h) else (K 0 h)
set_option maxRecDepth 100000 in
set_option maxHeartbeats 4000000 in
theorem t_X11_isNew {G : Gx} (a0 : Int) (h : Hh) (K : Int → Hh → Prop) (h0 : 0 ≤ a0) (hf : w_X11_isNew a0 h K) : CT G M_X11_isNew rm_X11_isNew 0 0 [] [vr 11 a0 0] h K := by
  unfold w_X11_isNew at hf
  refine CT.of (ls0 := [(0, vr 11 a0 0)]) (plainFor_of_name (by decide +kernel)) (by decide +kernel) (Nat.le_of_ble_eq_true rfl) rfl rfl ?_
  refine p_aload_n dX11_isNew_0 rfl 0 rfl ?_
  refine p_get (c := 11) (vi (h a0 3)) dX11_isNew_1 3 tb_896 (by decide) (by decide) (Or.inl rfl) h0 rfl rfl ?_
  refine p_iconst dX11_isNew_4 (by decide) ?_
  refine p_icmp_eq (tgt := 10) (q := h a0 3 = 1) dX11_isNew_5 (by decide) Iff.rfl (fun hc => ?_) (fun hc => ?_)
  · replace hf := Eq.mp (if_pos hc) hf
    refine p_iconst dX11_isNew_10 (by decide) ?_
    refine p_istore_n (ls' := [(1, vi 0), (0, vr 11 a0 0)]) dX11_isNew_11 rfl (by decide) rfl ?_
    refine p_sub (ls' := [(0, vr 11 a0 0), (1, vi 0)]) [1, 0] rfl ?_
    refine t_X11_isNew_12 h0  NF _ _ hf
  · replace hf := Eq.mp (if_neg hc) hf
    refine p_iconst dX11_isNew_8 (by decide) ?_
    exact p_zret dX11_isNew_9 rfl (by decide) (by decide) (fun _ h => absurd h List.not_mem_nil) (Or.inl rfl) hf
theorem ok_X11_isNew : mOK M_X11_isNew 0 := ⟨tb_1110, tb_9, by decide +kernel⟩
abbrev M_X11_form : MD := (yX11_form, cX11_form, 5, some .boolean)
abbrev rm_X11_form : Room := { frames := 1, cells := 0, slots := 0, locals := 21 }
def w_X11_form_130 (K : Int → Hh → Prop) (a0 : Int) (v1 s0 s1 s2 s2n : Int) (h : Hh) : Prop := 0 ≤ s2 ∧ (((0 : Int) ≤ s1 ∧ (s1 : Int) < s2n) ∧ (hb (up h s2 s1 s0) fun h11 => ((0 : Int) ≤ h11 a0 6 ∧ (h11 a0 6 : Int) < 5) ∧ (hb (up h11 (a0 + 4) (h11 a0 6) v1) fun h13 => hb (up h13 a0 6 (w32 ((h13 a0 6) + 1))) fun h14 => K 1 h14)))
set_option maxRecDepth 100000 in
set_option maxHeartbeats 4000000 in
theorem t_X11_form_130 {G : Gx} {n0 : Int} {K : Int → Hh → Prop} {a0 : Int} (h0 : 0 ≤ a0)  (v1 s0 s1 s2 s2n : Int) (h : Hh) (hf : w_X11_form_130 K  a0 v1 s0 s1 s2 s2n h) : PW G M_X11_form rm_X11_form 0 0 [] n0 K 130 [(0, vr 11 a0 0), (1, vi v1)] [vi s0, vi s1, vr 100 s2 s2n] [] 0 0 h := by
  unfold w_X11_form_130 at hf
  obtain ⟨c9, hf⟩ := hf
  obtain ⟨c10, hf⟩ := hf
  refine p_iast dX11_form_130 c9 c10 ?_
  replace hf := hb_e hf
  generalize up h s2 s1 s0 = h11 at hf ⊢
  refine p_aload_n dX11_form_131 rfl 0 rfl ?_
  refine p_lay (c := 11) (tq := 100) (n := 5) dX11_form_132 9 4 tb_902 (by decide) (by decide) h0 (by decide) (by decide) (fun _ => rfl) (vr 100 (a0 + 4) 5) rfl ?_
  refine p_aload_n dX11_form_135 rfl 0 rfl ?_
  refine p_get (c := 11) (vi (h11 a0 6)) dX11_form_136 6 tb_899 (by decide) (by decide) (Or.inl rfl) h0 rfl rfl ?_
  refine p_iload_n dX11_form_139 rfl 1 rfl ?_
  obtain ⟨c12, hf⟩ := hf
  refine p_iast dX11_form_140 (nnk h0 (by decide)) c12 ?_
  replace hf := hb_e hf
  generalize up h11 (a0 + 4) (h11 a0 6) v1 = h13 at hf ⊢
  refine p_aload_n dX11_form_141 rfl 0 rfl ?_
  refine p_dup dX11_form_142 (fun _ q => by cases q) ?_
  refine p_get (c := 11) (vi (h13 a0 6)) dX11_form_143 6 tb_899 (by decide) (by decide) (Or.inl rfl) h0 rfl rfl ?_
  refine p_iconst dX11_form_146 (by decide) ?_
  refine p_iadd dX11_form_147 ?_
  refine p_puti (c := 11) dX11_form_148 6 tb_899 (by decide) (by decide) (Or.inl rfl) h0 rfl rfl (fun _ => by decide) (up h13 a0 6 (w32 ((h13 a0 6) + 1))) rfl ?_
  replace hf := hb_e hf
  generalize up h13 a0 6 (w32 ((h13 a0 6) + 1)) = h14 at hf ⊢
  refine p_iconst dX11_form_151 (by decide) ?_
  exact p_zret dX11_form_152 rfl (by decide) (by decide) (fun _ h => absurd h List.not_mem_nil) (Or.inr rfl) hf
def w_X11_form_94 (K : Int → Hh → Prop) (a0 : Int) (v1 v2 v3 v4 : Int) (h : Hh) : Prop := ((0 : Int) ≤ h a0 6 ∧ (h a0 6 : Int) < 5) ∧ (hb (up h (a0 + 2) (h a0 6) v3) fun h8 => if v2 = 0 then (if v4 = 0 then (w_X11_form_130 K  a0 v1 0 (h8 a0 6) (a0 + 3) 5 h8) else (w_X11_form_130 K  a0 v1 1 (h8 a0 6) (a0 + 3) 5 h8)) else (w_X11_form_130 K  a0 v1 2 (h8 a0 6) (a0 + 3) 5 h8))
set_option maxRecDepth 100000 in
set_option maxHeartbeats 4000000 in
theorem t_X11_form_94 {G : Gx} {n0 : Int} {K : Int → Hh → Prop} {a0 : Int} (h0 : 0 ≤ a0)  (v1 v2 v3 v4 : Int) (h : Hh) (hf : w_X11_form_94 K  a0 v1 v2 v3 v4 h) : PW G M_X11_form rm_X11_form 0 0 [] n0 K 94 [(0, vr 11 a0 0), (1, vi v1), (2, vi v2), (3, vi v3), (4, vi v4)] [] [] 0 0 h := by
  unfold w_X11_form_94 at hf
  refine p_aload_n dX11_form_94 rfl 0 rfl ?_
  refine p_lay (c := 11) (tq := 100) (n := 5) dX11_form_95 7 2 tb_900 (by decide) (by decide) h0 (by decide) (by decide) (fun _ => rfl) (vr 100 (a0 + 2) 5) rfl ?_
  refine p_aload_n dX11_form_98 rfl 0 rfl ?_
  refine p_get (c := 11) (vi (h a0 6)) dX11_form_99 6 tb_899 (by decide) (by decide) (Or.inl rfl) h0 rfl rfl ?_
  refine p_iload_n dX11_form_102 rfl 3 rfl ?_
  obtain ⟨c7, hf⟩ := hf
  refine p_iast dX11_form_103 (nnk h0 (by decide)) c7 ?_
  replace hf := hb_e hf
  generalize up h (a0 + 2) (h a0 6) v3 = h8 at hf ⊢
  refine p_aload_n dX11_form_104 rfl 0 rfl ?_
  refine p_lay (c := 11) (tq := 100) (n := 5) dX11_form_105 8 3 tb_901 (by decide) (by decide) h0 (by decide) (by decide) (fun _ => rfl) (vr 100 (a0 + 3) 5) rfl ?_
  refine p_aload_n dX11_form_108 rfl 0 rfl ?_
  refine p_get (c := 11) (vi (h8 a0 6)) dX11_form_109 6 tb_899 (by decide) (by decide) (Or.inl rfl) h0 rfl rfl ?_
  refine p_iload_n dX11_form_112 rfl 2 rfl ?_
  refine p_if_eq (tgt := 120) (q := v2 = 0) dX11_form_113 (by decide) Iff.rfl (fun hc => ?_) (fun hc => ?_)
  · replace hf := Eq.mp (if_pos hc) hf
    refine p_iload dX11_form_120 4 rfl ?_
    refine p_if_eq (tgt := 129) (q := v4 = 0) dX11_form_122 (by decide) Iff.rfl (fun hc => ?_) (fun hc => ?_)
    · replace hf := Eq.mp (if_pos hc) hf
      refine p_iconst dX11_form_129 (by decide) ?_
      refine p_sub (ls' := [(0, vr 11 a0 0), (1, vi v1)]) [0, 1] rfl ?_
      exact t_X11_form_130 h0  _ _ _ _ _ _ hf
    · replace hf := Eq.mp (if_neg hc) hf
      refine p_iconst dX11_form_125 (by decide) ?_
      refine p_goto (tgt := 130) dX11_form_126 (by decide) ?_
      refine p_sub (ls' := [(0, vr 11 a0 0), (1, vi v1)]) [0, 1] rfl ?_
      exact t_X11_form_130 h0  _ _ _ _ _ _ hf
  · replace hf := Eq.mp (if_neg hc) hf
    refine p_iconst dX11_form_116 (by decide) ?_
    refine p_goto (tgt := 130) dX11_form_117 (by decide) ?_
    refine p_sub (ls' := [(0, vr 11 a0 0), (1, vi v1)]) [0, 1] rfl ?_
    exact t_X11_form_130 h0  _ _ _ _ _ _ hf
def w_X11_form_88 (K : Int → Hh → Prop) (a0 : Int) (h : Hh) : Prop := K 0 h
set_option maxRecDepth 100000 in
set_option maxHeartbeats 4000000 in
theorem t_X11_form_88 {G : Gx} {n0 : Int} {K : Int → Hh → Prop} {a0 : Int} (h0 : 0 ≤ a0)  (h : Hh) (hf : w_X11_form_88 K  a0  h) : PW G M_X11_form rm_X11_form 0 0 [] n0 K 88 [] [] [] 0 0 h := by
  unfold w_X11_form_88 at hf
  refine p_iconst dX11_form_88 (by decide) ?_
  exact p_zret dX11_form_89 rfl (by decide) (by decide) (fun _ h => absurd h List.not_mem_nil) (Or.inl rfl) hf
def w_X11_form_61 (K : Int → Hh → Prop) (a0 : Int) (v1 v2 v3 s0 : Int) (h : Hh) : Prop := if s0 = 0 then (w_X11_form_94 K  a0 v1 v2 v3 s0 h) else (w_X11_next a0 h (fun _ h15 => if h15 a0 3 ≠ 1 then (w_X11_form_88 K  a0  h15) else (if h15 a0 5 = v3 then (w_X11_next a0 h15 (fun _ h16 => w_X11_form_94 K  a0 v1 v2 v3 s0 h16)) else (w_X11_form_88 K  a0  h15))))
set_option maxRecDepth 100000 in
set_option maxHeartbeats 4000000 in
theorem t_X11_form_61 {G : Gx} {n0 : Int} {K : Int → Hh → Prop} {a0 : Int} (h0 : 0 ≤ a0)  (v1 v2 v3 s0 : Int) (h : Hh) (hf : w_X11_form_61 K  a0 v1 v2 v3 s0 h) : PW G M_X11_form rm_X11_form 0 0 [] n0 K 61 [(0, vr 11 a0 0), (1, vi v1), (2, vi v2), (3, vi v3)] [vi s0] [] 0 0 h := by
  unfold w_X11_form_61 at hf
  refine p_istore (ls' := [(4, vi s0), (0, vr 11 a0 0), (1, vi v1), (2, vi v2), (3, vi v3)]) dX11_form_61 (by decide) rfl ?_
  refine p_iload dX11_form_63 0 rfl ?_
  refine p_if_eq (tgt := 94) (q := s0 = 0) dX11_form_65 (by decide) Iff.rfl (fun hc => ?_) (fun hc => ?_)
  · replace hf := Eq.mp (if_pos hc) hf
    refine p_sub (ls' := [(0, vr 11 a0 0), (1, vi v1), (2, vi v2), (3, vi v3), (4, vi s0)]) [1, 2, 3, 4, 0] rfl ?_
    exact t_X11_form_94 h0  _ _ _ _ _ hf
  · replace hf := Eq.mp (if_neg hc) hf
    refine p_aload_n dX11_form_68 rfl 1 rfl ?_
    refine p_callVv dX11_form_69 M_X11_next rfl [] (t_X11_next _ _ _ h0 hf) ok_X11_next rfl (c := 11) (by decide) h0 rfl tb_1090 ⟨tb_1092, ts_73⟩ rfl (Nat.le_of_ble_eq_true rfl) ⟨rfl, rfl⟩ ⟨by decide, by decide⟩ ⟨by decide, by decide⟩ (fun _ h15 hf => ?_)
    refine p_aload_n dX11_form_72 rfl 1 rfl ?_
    refine p_get (c := 11) (vi (h15 a0 3)) dX11_form_73 3 tb_896 (by decide) (by decide) (Or.inl rfl) h0 rfl rfl ?_
    refine p_iconst dX11_form_76 (by decide) ?_
    refine p_icmp_ne (tgt := 88) (q := h15 a0 3 ≠ 1) dX11_form_77 (by decide) Iff.rfl (fun hc => ?_) (fun hc => ?_)
    · replace hf := Eq.mp (if_pos hc) hf
      refine p_sub (ls' := []) [] rfl ?_
      exact t_X11_form_88 h0   _ hf
    · replace hf := Eq.mp (if_neg hc) hf
      refine p_aload_n dX11_form_80 rfl 1 rfl ?_
      refine p_get (c := 11) (vi (h15 a0 5)) dX11_form_81 5 tb_898 (by decide) (by decide) (Or.inl rfl) h0 rfl rfl ?_
      refine p_iload_n dX11_form_84 rfl 4 rfl ?_
      refine p_icmp_eq (tgt := 90) (q := h15 a0 5 = v3) dX11_form_85 (by decide) Iff.rfl (fun hc => ?_) (fun hc => ?_)
      · replace hf := Eq.mp (if_pos hc) hf
        refine p_aload_n dX11_form_90 rfl 1 rfl ?_
        refine p_callVv dX11_form_91 M_X11_next rfl [] (t_X11_next _ _ _ h0 hf) ok_X11_next rfl (c := 11) (by decide) h0 rfl tb_1090 ⟨tb_1092, ts_73⟩ rfl (Nat.le_of_ble_eq_true rfl) ⟨rfl, rfl⟩ ⟨by decide, by decide⟩ ⟨by decide, by decide⟩ (fun _ h16 hf => ?_)
        refine p_sub (ls' := [(0, vr 11 a0 0), (1, vi v1), (2, vi v2), (3, vi v3), (4, vi s0)]) [1, 2, 3, 4, 0] rfl ?_
        exact t_X11_form_94 h0  _ _ _ _ _ hf
      · replace hf := Eq.mp (if_neg hc) hf
        refine p_sub (ls' := []) [] rfl ?_
        exact t_X11_form_88 h0   _ hf
def w_X11_form_60 (K : Int → Hh → Prop) (a0 : Int) (v1 v2 v3 : Int) (h : Hh) : Prop := w_X11_form_61 K  a0 v1 v2 v3 0 h
set_option maxRecDepth 100000 in
set_option maxHeartbeats 4000000 in
theorem t_X11_form_60 {G : Gx} {n0 : Int} {K : Int → Hh → Prop} {a0 : Int} (h0 : 0 ≤ a0)  (v1 v2 v3 : Int) (h : Hh) (hf : w_X11_form_60 K  a0 v1 v2 v3 h) : PW G M_X11_form rm_X11_form 0 0 [] n0 K 60 [(0, vr 11 a0 0), (1, vi v1), (2, vi v2), (3, vi v3)] [] [] 0 0 h := by
  unfold w_X11_form_60 at hf
  refine p_iconst dX11_form_60 (by decide) ?_
  exact t_X11_form_61 h0  _ _ _ _ _ hf
def w_X11_form_25 (K : Int → Hh → Prop) (a0 : Int) (v1 v2 : Int) (h : Hh) : Prop := w_X11_isNew a0 h (fun r3 h4 => if r3 ≠ 0 then (vb (h4 a0 5) fun z5 => w_X11_next a0 h4 (fun _ h6 => if v2 ≠ 0 then (w_X11_form_60 K  a0 v1 v2 z5 h6) else (w_X11_isSign a0 42 h6 (fun r17 h18 => if r17 = 0 then (w_X11_form_60 K  a0 v1 v2 z5 h18) else (w_X11_form_61 K  a0 v1 v2 z5 1 h18))))) else (K 0 h4))
set_option maxRecDepth 100000 in
set_option maxHeartbeats 4000000 in
theorem t_X11_form_25 {G : Gx} {n0 : Int} {K : Int → Hh → Prop} {a0 : Int} (h0 : 0 ≤ a0)  (v1 v2 : Int) (h : Hh) (hf : w_X11_form_25 K  a0 v1 v2 h) : PW G M_X11_form rm_X11_form 0 0 [] n0 K 25 [(0, vr 11 a0 0), (1, vi v1), (2, vi v2)] [] [] 0 0 h := by
  unfold w_X11_form_25 at hf
  refine p_aload_n dX11_form_25 rfl 0 rfl ?_
  refine p_callVi dX11_form_26 M_X11_isNew (Or.inr rfl) [] (t_X11_isNew _ _ _ h0 hf) ok_X11_isNew rfl (c := 11) (by decide) h0 rfl tb_1107 ⟨tb_1109, ts_77⟩ rfl (Nat.le_of_ble_eq_true rfl) ⟨rfl, rfl⟩ ⟨by decide, by decide⟩ ⟨by decide, by decide⟩ (fun r3 h4 hf => ?_)
  refine p_if_ne (tgt := 34) (q := r3 ≠ 0) dX11_form_29 (by decide) Iff.rfl (fun hc => ?_) (fun hc => ?_)
  · replace hf := Eq.mp (if_pos hc) hf
    refine p_aload_n dX11_form_34 rfl 0 rfl ?_
    refine p_get (c := 11) (vi (h4 a0 5)) dX11_form_35 5 tb_898 (by decide) (by decide) (Or.inl rfl) h0 rfl rfl ?_
    refine p_istore_n (ls' := [(3, vi (h4 a0 5)), (0, vr 11 a0 0), (1, vi v1), (2, vi v2)]) dX11_form_38 rfl (by decide) rfl ?_
    replace hf := vb_e hf
    generalize (h4 a0 5) = z5 at hf ⊢
    refine p_aload_n dX11_form_39 rfl 1 rfl ?_
    refine p_callVv dX11_form_40 M_X11_next rfl [] (t_X11_next _ _ _ h0 hf) ok_X11_next rfl (c := 11) (by decide) h0 rfl tb_1090 ⟨tb_1092, ts_73⟩ rfl (Nat.le_of_ble_eq_true rfl) ⟨rfl, rfl⟩ ⟨by decide, by decide⟩ ⟨by decide, by decide⟩ (fun _ h6 hf => ?_)
    refine p_iload_n dX11_form_43 rfl 3 rfl ?_
    refine p_if_ne (tgt := 60) (q := v2 ≠ 0) dX11_form_44 (by decide) Iff.rfl (fun hc => ?_) (fun hc => ?_)
    · replace hf := Eq.mp (if_pos hc) hf
      refine p_sub (ls' := [(0, vr 11 a0 0), (1, vi v1), (2, vi v2), (3, vi z5)]) [1, 2, 3, 0] rfl ?_
      exact t_X11_form_60 h0  _ _ _ _ hf
    · replace hf := Eq.mp (if_neg hc) hf
      refine p_aload_n dX11_form_47 rfl 1 rfl ?_
      refine p_bipush dX11_form_48 (by decide) (by decide) ?_
      refine p_callVi dX11_form_50 M_X11_isSign (Or.inr rfl) [vi 42] (t_X11_isSign _ _ _ _ h0 hf) ok_X11_isSign rfl (c := 11) (by decide) h0 rfl tb_1103 ⟨tb_1105, ts_76⟩ rfl (Nat.le_of_ble_eq_true rfl) ⟨rfl, rfl⟩ ⟨by decide, by decide⟩ ⟨by decide, by decide⟩ (fun r17 h18 hf => ?_)
      refine p_if_eq (tgt := 60) (q := r17 = 0) dX11_form_53 (by decide) Iff.rfl (fun hc => ?_) (fun hc => ?_)
      · replace hf := Eq.mp (if_pos hc) hf
        refine p_sub (ls' := [(0, vr 11 a0 0), (1, vi v1), (2, vi v2), (3, vi z5)]) [1, 2, 3, 0] rfl ?_
        exact t_X11_form_60 h0  _ _ _ _ hf
      · replace hf := Eq.mp (if_neg hc) hf
        refine p_iconst dX11_form_56 (by decide) ?_
        refine p_goto (tgt := 61) dX11_form_57 (by decide) ?_
        refine p_sub (ls' := [(0, vr 11 a0 0), (1, vi v1), (2, vi v2), (3, vi z5)]) [1, 2, 3, 0] rfl ?_
        exact t_X11_form_61 h0  _ _ _ _ _ hf
  · replace hf := Eq.mp (if_neg hc) hf
    refine p_iconst dX11_form_32 (by decide) ?_
    exact p_zret dX11_form_33 rfl (by decide) (by decide) (fun _ h => absurd h List.not_mem_nil) (Or.inl rfl) hf
def w_X11_form (a0 x1 : Int) (h : Hh) (K : Int → Hh → Prop) : Prop := if h a0 6 ≠ 5 then (w_X11_isSign a0 47 h (fun r1 h2 => if r1 = 0 then (w_X11_form_25 K  a0 x1 r1 h2) else (w_X11_next a0 h2 (fun _ h19 => w_X11_form_25 K  a0 x1 r1 h19)))) else (K 0 h)
set_option maxRecDepth 100000 in
set_option maxHeartbeats 4000000 in
theorem t_X11_form {G : Gx} (a0 x1 : Int) (h : Hh) (K : Int → Hh → Prop) (h0 : 0 ≤ a0) (hf : w_X11_form a0 x1 h K) : CT G M_X11_form rm_X11_form 0 0 [] [vr 11 a0 0, vi x1] h K := by
  unfold w_X11_form at hf
  refine CT.of (ls0 := [(0, vr 11 a0 0), (1, vi x1)]) (plainFor_of_name (by decide +kernel)) (by decide +kernel) (Nat.le_of_ble_eq_true rfl) rfl rfl ?_
  refine p_aload_n dX11_form_0 rfl 0 rfl ?_
  refine p_get (c := 11) (vi (h a0 6)) dX11_form_1 6 tb_899 (by decide) (by decide) (Or.inl rfl) h0 rfl rfl ?_
  refine p_iconst dX11_form_4 (by decide) ?_
  refine p_icmp_ne (tgt := 10) (q := h a0 6 ≠ 5) dX11_form_5 (by decide) Iff.rfl (fun hc => ?_) (fun hc => ?_)
  · replace hf := Eq.mp (if_pos hc) hf
    refine p_aload_n dX11_form_10 rfl 0 rfl ?_
    refine p_bipush dX11_form_11 (by decide) (by decide) ?_
    refine p_callVi dX11_form_13 M_X11_isSign (Or.inr rfl) [vi 47] (t_X11_isSign _ _ _ _ h0 hf) ok_X11_isSign rfl (c := 11) (by decide) h0 rfl tb_1103 ⟨tb_1105, ts_76⟩ rfl (Nat.le_of_ble_eq_true rfl) ⟨rfl, rfl⟩ ⟨by decide, by decide⟩ ⟨by decide, by decide⟩ (fun r1 h2 hf => ?_)
    refine p_istore_n (ls' := [(2, vi r1), (0, vr 11 a0 0), (1, vi x1)]) dX11_form_16 rfl (by decide) rfl ?_
    refine p_iload_n dX11_form_17 rfl 0 rfl ?_
    refine p_if_eq (tgt := 25) (q := r1 = 0) dX11_form_18 (by decide) Iff.rfl (fun hc => ?_) (fun hc => ?_)
    · replace hf := Eq.mp (if_pos hc) hf
      refine p_sub (ls' := [(0, vr 11 a0 0), (1, vi x1), (2, vi r1)]) [1, 2, 0] rfl ?_
      exact t_X11_form_25 h0  _ _ _ hf
    · replace hf := Eq.mp (if_neg hc) hf
      refine p_aload_n dX11_form_21 rfl 1 rfl ?_
      refine p_callVv dX11_form_22 M_X11_next rfl [] (t_X11_next _ _ _ h0 hf) ok_X11_next rfl (c := 11) (by decide) h0 rfl tb_1090 ⟨tb_1092, ts_73⟩ rfl (Nat.le_of_ble_eq_true rfl) ⟨rfl, rfl⟩ ⟨by decide, by decide⟩ ⟨by decide, by decide⟩ (fun _ h19 hf => ?_)
      refine p_sub (ls' := [(0, vr 11 a0 0), (1, vi x1), (2, vi r1)]) [1, 2, 0] rfl ?_
      exact t_X11_form_25 h0  _ _ _ hf
  · replace hf := Eq.mp (if_neg hc) hf
    refine p_iconst dX11_form_8 (by decide) ?_
    exact p_zret dX11_form_9 rfl (by decide) (by decide) (fun _ h => absurd h List.not_mem_nil) (Or.inl rfl) hf
theorem ok_X11_form : mOK M_X11_form 1 := ⟨tb_1102, tb_9, by decide +kernel⟩
abbrev M_X11_part : MD := (yX11_part, cX11_part, 2, some .boolean)
abbrev rm_X11_part : Room := { frames := 2, cells := 0, slots := 0, locals := 45 }
def w_X11_part_14 (K : Int → Hh → Prop) (a0 : Int) (s0 : Int) (h : Hh) : Prop := w_X11_next a0 h (fun _ h3 => if h3 a0 3 = 2 then (if h3 a0 5 ≤ 9999 then (hb (up h3 a0 10 (w32 ((h3 a0 10) + (w32 (s0 * (h3 a0 5)))))) fun h4 => w_X11_next a0 h4 (fun _ h5 => K 1 h5)) else (K 0 h3)) else (w_X11_form a0 s0 h3 (fun r6 h7 => (r6 = 0 ∨ r6 = 1) ∧ (K r6 h7))))
set_option maxRecDepth 100000 in
set_option maxHeartbeats 4000000 in
theorem t_X11_part_14 {G : Gx} {n0 : Int} {K : Int → Hh → Prop} {a0 : Int} (h0 : 0 ≤ a0)  (s0 : Int) (h : Hh) (hf : w_X11_part_14 K  a0 s0 h) : PW G M_X11_part rm_X11_part 0 0 [] n0 K 14 [(0, vr 11 a0 0)] [vi s0] [] 0 0 h := by
  unfold w_X11_part_14 at hf
  refine p_istore_n (ls' := [(1, vi s0), (0, vr 11 a0 0)]) dX11_part_14 rfl (by decide) rfl ?_
  refine p_aload_n dX11_part_15 rfl 1 rfl ?_
  refine p_callVv dX11_part_16 M_X11_next rfl [] (t_X11_next _ _ _ h0 hf) ok_X11_next rfl (c := 11) (by decide) h0 rfl tb_1090 ⟨tb_1092, ts_73⟩ rfl (Nat.le_of_ble_eq_true rfl) ⟨rfl, rfl⟩ ⟨by decide, by decide⟩ ⟨by decide, by decide⟩ (fun _ h3 hf => ?_)
  refine p_aload_n dX11_part_19 rfl 1 rfl ?_
  refine p_get (c := 11) (vi (h3 a0 3)) dX11_part_20 3 tb_896 (by decide) (by decide) (Or.inl rfl) h0 rfl rfl ?_
  refine p_iconst dX11_part_23 (by decide) ?_
  refine p_icmp_eq (tgt := 33) (q := h3 a0 3 = 2) dX11_part_24 (by decide) Iff.rfl (fun hc => ?_) (fun hc => ?_)
  · replace hf := Eq.mp (if_pos hc) hf
    refine p_aload_n dX11_part_33 rfl 1 rfl ?_
    refine p_get (c := 11) (vi (h3 a0 5)) dX11_part_34 5 tb_898 (by decide) (by decide) (Or.inl rfl) h0 rfl rfl ?_
    refine p_sipush dX11_part_37 (by decide) (by decide) ?_
    refine p_icmp_le (tgt := 45) (q := h3 a0 5 ≤ 9999) dX11_part_40 (by decide) Iff.rfl (fun hc => ?_) (fun hc => ?_)
    · replace hf := Eq.mp (if_pos hc) hf
      refine p_aload_n dX11_part_45 rfl 1 rfl ?_
      refine p_dup dX11_part_46 (fun _ q => by cases q) ?_
      refine p_get (c := 11) (vi (h3 a0 10)) dX11_part_47 10 tb_903 (by decide) (by decide) (Or.inl rfl) h0 rfl rfl ?_
      refine p_iload_n dX11_part_50 rfl 0 rfl ?_
      refine p_aload_n dX11_part_51 rfl 1 rfl ?_
      refine p_get (c := 11) (vi (h3 a0 5)) dX11_part_52 5 tb_898 (by decide) (by decide) (Or.inl rfl) h0 rfl rfl ?_
      refine p_imul dX11_part_55 ?_
      refine p_iadd dX11_part_56 ?_
      refine p_puti (c := 11) dX11_part_57 10 tb_903 (by decide) (by decide) (Or.inl rfl) h0 rfl rfl (fun _ => by decide) (up h3 a0 10 (w32 ((h3 a0 10) + (w32 (s0 * (h3 a0 5)))))) rfl ?_
      replace hf := hb_e hf
      generalize up h3 a0 10 (w32 ((h3 a0 10) + (w32 (s0 * (h3 a0 5))))) = h4 at hf ⊢
      refine p_aload_n dX11_part_60 rfl 1 rfl ?_
      refine p_callVv dX11_part_61 M_X11_next rfl [] (t_X11_next _ _ _ h0 hf) ok_X11_next rfl (c := 11) (by decide) h0 rfl tb_1090 ⟨tb_1092, ts_73⟩ rfl (Nat.le_of_ble_eq_true rfl) ⟨rfl, rfl⟩ ⟨by decide, by decide⟩ ⟨by decide, by decide⟩ (fun _ h5 hf => ?_)
      refine p_iconst dX11_part_64 (by decide) ?_
      exact p_zret dX11_part_65 rfl (by decide) (by decide) (fun _ h => absurd h List.not_mem_nil) (Or.inr rfl) hf
    · replace hf := Eq.mp (if_neg hc) hf
      refine p_iconst dX11_part_43 (by decide) ?_
      exact p_zret dX11_part_44 rfl (by decide) (by decide) (fun _ h => absurd h List.not_mem_nil) (Or.inl rfl) hf
  · replace hf := Eq.mp (if_neg hc) hf
    refine p_aload_n dX11_part_27 rfl 1 rfl ?_
    refine p_iload_n dX11_part_28 rfl 0 rfl ?_
    refine p_callVi dX11_part_29 M_X11_form (Or.inr rfl) [vi s0] (t_X11_form _ _ _ _ h0 hf) ok_X11_form rfl (c := 11) (by decide) h0 rfl tb_1099 ⟨tb_1101, ts_75⟩ rfl (Nat.le_of_ble_eq_true rfl) ⟨rfl, rfl⟩ ⟨by decide, by decide⟩ ⟨by decide, by decide⟩ (fun r6 h7 hf => ?_)
    obtain ⟨c8, hf⟩ := hf
    exact p_zret dX11_part_32 rfl (by decide) (by decide) (fun _ h => absurd h List.not_mem_nil) c8 hf
def w_X11_part (a0 : Int) (h : Hh) (K : Int → Hh → Prop) : Prop := w_X11_isSign a0 45 h (fun r1 h2 => if r1 = 0 then (w_X11_part_14 K  a0 1 h2) else (w_X11_part_14 K  a0 (-1) h2))
set_option maxRecDepth 100000 in
set_option maxHeartbeats 4000000 in
theorem t_X11_part {G : Gx} (a0 : Int) (h : Hh) (K : Int → Hh → Prop) (h0 : 0 ≤ a0) (hf : w_X11_part a0 h K) : CT G M_X11_part rm_X11_part 0 0 [] [vr 11 a0 0] h K := by
  unfold w_X11_part at hf
  refine CT.of (ls0 := [(0, vr 11 a0 0)]) (plainFor_of_name (by decide +kernel)) (by decide +kernel) (Nat.le_of_ble_eq_true rfl) rfl rfl ?_
  refine p_aload_n dX11_part_0 rfl 0 rfl ?_
  refine p_bipush dX11_part_1 (by decide) (by decide) ?_
  refine p_callVi dX11_part_3 M_X11_isSign (Or.inr rfl) [vi 45] (t_X11_isSign _ _ _ _ h0 hf) ok_X11_isSign rfl (c := 11) (by decide) h0 rfl tb_1103 ⟨tb_1105, ts_76⟩ rfl (Nat.le_of_ble_eq_true rfl) ⟨rfl, rfl⟩ ⟨by decide, by decide⟩ ⟨by decide, by decide⟩ (fun r1 h2 hf => ?_)
  refine p_if_eq (tgt := 13) (q := r1 = 0) dX11_part_6 (by decide) Iff.rfl (fun hc => ?_) (fun hc => ?_)
  · replace hf := Eq.mp (if_pos hc) hf
    refine p_iconst dX11_part_13 (by decide) ?_
    exact t_X11_part_14 h0  _ _ hf
  · replace hf := Eq.mp (if_neg hc) hf
    refine p_iconst dX11_part_9 (by decide) ?_
    refine p_goto (tgt := 14) dX11_part_10 (by decide) ?_
    exact t_X11_part_14 h0  _ _ hf
theorem ok_X11_part : mOK M_X11_part 0 := ⟨tb_1114, tb_9, by decide +kernel⟩
abbrev M_X11_whole : MD := (yX11_whole, cX11_whole, 2, some .boolean)
abbrev rm_X11_whole : Room := { frames := 3, cells := 0, slots := 0, locals := 66 }
def w_X11_whole_17 (K : Int → Hh → Prop) (a0 : Int) (h : Hh) : Prop := K 0 h
set_option maxRecDepth 100000 in
set_option maxHeartbeats 4000000 in
theorem t_X11_whole_17 {G : Gx} {n0 : Int} {K : Int → Hh → Prop} {a0 : Int} (h0 : 0 ≤ a0)  (h : Hh) (hf : w_X11_whole_17 K  a0  h) : PW G M_X11_whole rm_X11_whole 0 0 [] n0 K 17 [] [] [] 0 0 h := by
  unfold w_X11_whole_17 at hf
  refine p_iconst dX11_whole_17 (by decide) ?_
  exact p_zret dX11_whole_18 rfl (by decide) (by decide) (fun _ h => absurd h List.not_mem_nil) (Or.inl rfl) hf
def w_X11_whole_74 (K : Int → Hh → Prop) (B : Hh → Prop) (X83 : Hh → Prop) (a0 : Int) (h : Hh) : Prop := w_X11_part a0 h (fun r13 h14 => if r13 ≠ 0 then (B  h14) else (K 0 h14))
set_option maxRecDepth 100000 in
set_option maxHeartbeats 4000000 in
theorem t_X11_whole_74 {G : Gx} {n0 : Int} {K : Int → Hh → Prop} {B : Hh → Prop} {X83 : Hh → Prop} {a0 : Int} (h0 : 0 ≤ a0) (hB : ∀ (h : Hh), B  h → PW G M_X11_whole rm_X11_whole 0 0 [] n0 K 56 [(0, vr 11 a0 0)] [] [] 0 0 h) (hX83 : ∀ (h : Hh), X83  h → PW G M_X11_whole rm_X11_whole 0 0 [] n0 K 83 [(0, vr 11 a0 0)] [] [] 0 0 h)  (h : Hh) (hf : w_X11_whole_74 K B X83 a0  h) : PW G M_X11_whole rm_X11_whole 0 0 [] n0 K 74 [(0, vr 11 a0 0)] [] [] 0 0 h := by
  unfold w_X11_whole_74 at hf
  refine p_aload_n dX11_whole_74 rfl 0 rfl ?_
  refine p_callVi dX11_whole_75 M_X11_part (Or.inr rfl) [] (t_X11_part _ _ _ h0 hf) ok_X11_part rfl (c := 11) (by decide) h0 rfl tb_1111 ⟨tb_1113, ts_78⟩ rfl (Nat.le_of_ble_eq_true rfl) ⟨rfl, rfl⟩ ⟨by decide, by decide⟩ ⟨by decide, by decide⟩ (fun r13 h14 hf => ?_)
  refine p_if_ne (tgt := 56) (q := r13 ≠ 0) dX11_whole_78 (by decide) Iff.rfl (fun hc => ?_) (fun hc => ?_)
  · replace hf := Eq.mp (if_pos hc) hf
    exact hB  _ hf
  · replace hf := Eq.mp (if_neg hc) hf
    refine p_iconst dX11_whole_81 (by decide) ?_
    exact p_zret dX11_whole_82 rfl (by decide) (by decide) (fun _ h => absurd h List.not_mem_nil) (Or.inl rfl) hf
def w_X11_whole_56 (K : Int → Hh → Prop) (X83 : Hh → Prop) (a0 : Int) : Nat → Hh → Prop
  | 0, _ => False
  | n + 1, h => w_X11_isSign a0 43 h (fun r11 h12 => if r11 ≠ 0 then (w_X11_whole_74 K (w_X11_whole_56 K X83 a0 n) X83 a0  h12) else (w_X11_isSign a0 45 h12 (fun r15 h16 => if r15 = 0 then (X83  h16) else (w_X11_whole_74 K (w_X11_whole_56 K X83 a0 n) X83 a0  h16))))
set_option maxRecDepth 100000 in
set_option maxHeartbeats 4000000 in
theorem t_X11_whole_56 {G : Gx} {n0 : Int} {K : Int → Hh → Prop} {X83 : Hh → Prop} {a0 : Int} (h0 : 0 ≤ a0) (hX83 : ∀ (h : Hh), X83  h → PW G M_X11_whole rm_X11_whole 0 0 [] n0 K 83 [(0, vr 11 a0 0)] [] [] 0 0 h) : ∀ (n : Nat) (h : Hh), w_X11_whole_56 K X83 a0 n  h → PW G M_X11_whole rm_X11_whole 0 0 [] n0 K 56 [(0, vr 11 a0 0)] [] [] 0 0 h := by
  intro n
  induction n with
  | zero =>
    intro h hf
    rw [w_X11_whole_56] at hf
    exact hf.elim
  | succ n ih =>
    intro h hf
    rw [w_X11_whole_56] at hf
    refine p_aload_n dX11_whole_56 rfl 0 rfl ?_
    refine p_bipush dX11_whole_57 (by decide) (by decide) ?_
    refine p_callVi dX11_whole_59 M_X11_isSign (Or.inr rfl) [vi 43] (t_X11_isSign _ _ _ _ h0 hf) ok_X11_isSign rfl (c := 11) (by decide) h0 rfl tb_1103 ⟨tb_1105, ts_76⟩ rfl (Nat.le_of_ble_eq_true rfl) ⟨rfl, rfl⟩ ⟨by decide, by decide⟩ ⟨by decide, by decide⟩ (fun r11 h12 hf => ?_)
    refine p_if_ne (tgt := 74) (q := r11 ≠ 0) dX11_whole_62 (by decide) Iff.rfl (fun hc => ?_) (fun hc => ?_)
    · replace hf := Eq.mp (if_pos hc) hf
      exact t_X11_whole_74 h0 ih hX83  _ hf
    · replace hf := Eq.mp (if_neg hc) hf
      refine p_aload_n dX11_whole_65 rfl 0 rfl ?_
      refine p_bipush dX11_whole_66 (by decide) (by decide) ?_
      refine p_callVi dX11_whole_68 M_X11_isSign (Or.inr rfl) [vi 45] (t_X11_isSign _ _ _ _ h0 hf) ok_X11_isSign rfl (c := 11) (by decide) h0 rfl tb_1103 ⟨tb_1105, ts_76⟩ rfl (Nat.le_of_ble_eq_true rfl) ⟨rfl, rfl⟩ ⟨by decide, by decide⟩ ⟨by decide, by decide⟩ (fun r15 h16 hf => ?_)
      refine p_if_eq (tgt := 83) (q := r15 = 0) dX11_whole_71 (by decide) Iff.rfl (fun hc => ?_) (fun hc => ?_)
      · replace hf := Eq.mp (if_pos hc) hf
        exact hX83  _ hf
      · replace hf := Eq.mp (if_neg hc) hf
        exact t_X11_whole_74 h0 ih hX83  _ hf
def w_X11_whole_100 (K : Int → Hh → Prop) (a0 : Int) (h : Hh) : Prop := K 0 h
set_option maxRecDepth 100000 in
set_option maxHeartbeats 4000000 in
theorem t_X11_whole_100 {G : Gx} {n0 : Int} {K : Int → Hh → Prop} {a0 : Int} (h0 : 0 ≤ a0)  (h : Hh) (hf : w_X11_whole_100 K  a0  h) : PW G M_X11_whole rm_X11_whole 0 0 [] n0 K 100 [] [] [] 0 0 h := by
  unfold w_X11_whole_100 at hf
  refine p_iconst dX11_whole_100 (by decide) ?_
  exact p_zret dX11_whole_101 rfl (by decide) (by decide) (fun _ h => absurd h List.not_mem_nil) (Or.inl rfl) hf
def w_X11_whole_118 (K : Int → Hh → Prop) (a0 : Int) (s0 : Int) (h : Hh) : Prop := (s0 = 0 ∨ s0 = 1) ∧ (K s0 h)
set_option maxRecDepth 100000 in
set_option maxHeartbeats 4000000 in
theorem t_X11_whole_118 {G : Gx} {n0 : Int} {K : Int → Hh → Prop} {a0 : Int} (h0 : 0 ≤ a0)  (s0 : Int) (h : Hh) (hf : w_X11_whole_118 K  a0 s0 h) : PW G M_X11_whole rm_X11_whole 0 0 [] n0 K 118 [] [vi s0] [] 0 0 h := by
  unfold w_X11_whole_118 at hf
  obtain ⟨c21, hf⟩ := hf
  exact p_zret dX11_whole_118 rfl (by decide) (by decide) (fun _ h => absurd h List.not_mem_nil) c21 hf
def w_X11_whole_48 (K : Int → Hh → Prop) (a0 : Int) (s0 s1 : Int) (h : Hh) : Prop := 0 ≤ s1 ∧ (w_X11_form s1 s0 h (fun r9 h10 => if r9 ≠ 0 then (w_X11_whole_56 K (fun h17 => w_X11_isSign a0 59 h17 (fun r18 h19 => if r18 = 0 then (w_X11_whole_100 K  a0  h19) else (if h19 a0 6 ≥ 3 then (w_X11_next a0 h19 (fun _ h20 => if h20 a0 3 ≠ 0 then (w_X11_whole_118 K  a0 0 h20) else (w_X11_whole_118 K  a0 1 h20))) else (w_X11_whole_100 K  a0  h19)))) a0 NF  h10) else (K 0 h10)))
set_option maxRecDepth 100000 in
set_option maxHeartbeats 4000000 in
theorem t_X11_whole_48 {G : Gx} {n0 : Int} {K : Int → Hh → Prop} {a0 : Int} (h0 : 0 ≤ a0)  (s0 s1 : Int) (h : Hh) (hf : w_X11_whole_48 K  a0 s0 s1 h) : PW G M_X11_whole rm_X11_whole 0 0 [] n0 K 48 [(0, vr 11 a0 0)] [vi s0, vr 11 s1 0] [] 0 0 h := by
  unfold w_X11_whole_48 at hf
  obtain ⟨c8, hf⟩ := hf
  refine p_callVi dX11_whole_48 M_X11_form (Or.inr rfl) [vi s0] (t_X11_form _ _ _ _ c8 hf) ok_X11_form rfl (c := 11) (by decide) c8 rfl tb_1099 ⟨tb_1101, ts_75⟩ rfl (Nat.le_of_ble_eq_true rfl) ⟨rfl, rfl⟩ ⟨by decide, by decide⟩ ⟨by decide, by decide⟩ (fun r9 h10 hf => ?_)
  refine p_if_ne (tgt := 56) (q := r9 ≠ 0) dX11_whole_51 (by decide) Iff.rfl (fun hc => ?_) (fun hc => ?_)
  · replace hf := Eq.mp (if_pos hc) hf
    refine t_X11_whole_56 h0 ?_ NF  _ hf
    · intro h17 hf
      refine p_aload_n dX11_whole_83 rfl 0 rfl ?_
      refine p_bipush dX11_whole_84 (by decide) (by decide) ?_
      refine p_callVi dX11_whole_86 M_X11_isSign (Or.inr rfl) [vi 59] (t_X11_isSign _ _ _ _ h0 hf) ok_X11_isSign rfl (c := 11) (by decide) h0 rfl tb_1103 ⟨tb_1105, ts_76⟩ rfl (Nat.le_of_ble_eq_true rfl) ⟨rfl, rfl⟩ ⟨by decide, by decide⟩ ⟨by decide, by decide⟩ (fun r18 h19 hf => ?_)
      refine p_if_eq (tgt := 100) (q := r18 = 0) dX11_whole_89 (by decide) Iff.rfl (fun hc => ?_) (fun hc => ?_)
      · replace hf := Eq.mp (if_pos hc) hf
        refine p_sub (ls' := []) [] rfl ?_
        exact t_X11_whole_100 h0   _ hf
      · replace hf := Eq.mp (if_neg hc) hf
        refine p_aload_n dX11_whole_92 rfl 0 rfl ?_
        refine p_get (c := 11) (vi (h19 a0 6)) dX11_whole_93 6 tb_899 (by decide) (by decide) (Or.inl rfl) h0 rfl rfl ?_
        refine p_iconst dX11_whole_96 (by decide) ?_
        refine p_icmp_ge (tgt := 102) (q := h19 a0 6 ≥ 3) dX11_whole_97 (by decide) Iff.rfl (fun hc => ?_) (fun hc => ?_)
        · replace hf := Eq.mp (if_pos hc) hf
          refine p_aload_n dX11_whole_102 rfl 0 rfl ?_
          refine p_callVv dX11_whole_103 M_X11_next rfl [] (t_X11_next _ _ _ h0 hf) ok_X11_next rfl (c := 11) (by decide) h0 rfl tb_1090 ⟨tb_1092, ts_73⟩ rfl (Nat.le_of_ble_eq_true rfl) ⟨rfl, rfl⟩ ⟨by decide, by decide⟩ ⟨by decide, by decide⟩ (fun _ h20 hf => ?_)
          refine p_aload_n dX11_whole_106 rfl 0 rfl ?_
          refine p_get (c := 11) (vi (h20 a0 3)) dX11_whole_107 3 tb_896 (by decide) (by decide) (Or.inl rfl) h0 rfl rfl ?_
          refine p_if_ne (tgt := 117) (q := h20 a0 3 ≠ 0) dX11_whole_110 (by decide) Iff.rfl (fun hc => ?_) (fun hc => ?_)
          · replace hf := Eq.mp (if_pos hc) hf
            refine p_iconst dX11_whole_117 (by decide) ?_
            refine p_sub (ls' := []) [] rfl ?_
            exact t_X11_whole_118 h0  _ _ hf
          · replace hf := Eq.mp (if_neg hc) hf
            refine p_iconst dX11_whole_113 (by decide) ?_
            refine p_goto (tgt := 118) dX11_whole_114 (by decide) ?_
            refine p_sub (ls' := []) [] rfl ?_
            exact t_X11_whole_118 h0  _ _ hf
        · replace hf := Eq.mp (if_neg hc) hf
          refine p_sub (ls' := []) [] rfl ?_
          exact t_X11_whole_100 h0   _ hf
  · replace hf := Eq.mp (if_neg hc) hf
    refine p_iconst dX11_whole_54 (by decide) ?_
    exact p_zret dX11_whole_55 rfl (by decide) (by decide) (fun _ h => absurd h List.not_mem_nil) (Or.inl rfl) hf
def w_X11_whole_38 (K : Int → Hh → Prop) (a0 : Int) (v1 : Int) (h : Hh) : Prop := if v1 = 0 then (w_X11_whole_48 K  a0 1 a0 h) else (w_X11_whole_48 K  a0 (-1) a0 h)
set_option maxRecDepth 100000 in
set_option maxHeartbeats 4000000 in
theorem t_X11_whole_38 {G : Gx} {n0 : Int} {K : Int → Hh → Prop} {a0 : Int} (h0 : 0 ≤ a0)  (v1 : Int) (h : Hh) (hf : w_X11_whole_38 K  a0 v1 h) : PW G M_X11_whole rm_X11_whole 0 0 [] n0 K 38 [(0, vr 11 a0 0), (1, vi v1)] [] [] 0 0 h := by
  unfold w_X11_whole_38 at hf
  refine p_aload_n dX11_whole_38 rfl 0 rfl ?_
  refine p_iload_n dX11_whole_39 rfl 1 rfl ?_
  refine p_if_eq (tgt := 47) (q := v1 = 0) dX11_whole_40 (by decide) Iff.rfl (fun hc => ?_) (fun hc => ?_)
  · replace hf := Eq.mp (if_pos hc) hf
    refine p_iconst dX11_whole_47 (by decide) ?_
    refine p_sub (ls' := [(0, vr 11 a0 0)]) [0] rfl ?_
    exact t_X11_whole_48 h0  _ _ _ hf
  · replace hf := Eq.mp (if_neg hc) hf
    refine p_iconst dX11_whole_43 (by decide) ?_
    refine p_goto (tgt := 48) dX11_whole_44 (by decide) ?_
    refine p_sub (ls' := [(0, vr 11 a0 0)]) [0] rfl ?_
    exact t_X11_whole_48 h0  _ _ _ hf
def w_X11_whole (a0 : Int) (h : Hh) (K : Int → Hh → Prop) : Prop := w_X11_form a0 1 h (fun r1 h2 => if r1 = 0 then (w_X11_whole_17 K  a0  h2) else (w_X11_isSign a0 61 h2 (fun r3 h4 => if r3 ≠ 0 then (w_X11_next a0 h4 (fun _ h5 => w_X11_isSign a0 45 h5 (fun r6 h7 => if r6 = 0 then (w_X11_whole_38 K  a0 r6 h7) else (w_X11_next a0 h7 (fun _ h22 => w_X11_whole_38 K  a0 r6 h22))))) else (w_X11_whole_17 K  a0  h4))))
set_option maxRecDepth 100000 in
set_option maxHeartbeats 4000000 in
theorem t_X11_whole {G : Gx} (a0 : Int) (h : Hh) (K : Int → Hh → Prop) (h0 : 0 ≤ a0) (hf : w_X11_whole a0 h K) : CT G M_X11_whole rm_X11_whole 0 0 [] [vr 11 a0 0] h K := by
  unfold w_X11_whole at hf
  refine CT.of (ls0 := [(0, vr 11 a0 0)]) (plainFor_of_name (by decide +kernel)) (by decide +kernel) (Nat.le_of_ble_eq_true rfl) rfl rfl ?_
  refine p_aload_n dX11_whole_0 rfl 0 rfl ?_
  refine p_iconst dX11_whole_1 (by decide) ?_
  refine p_callVi dX11_whole_2 M_X11_form (Or.inr rfl) [vi 1] (t_X11_form _ _ _ _ h0 hf) ok_X11_form rfl (c := 11) (by decide) h0 rfl tb_1099 ⟨tb_1101, ts_75⟩ rfl (Nat.le_of_ble_eq_true rfl) ⟨rfl, rfl⟩ ⟨by decide, by decide⟩ ⟨by decide, by decide⟩ (fun r1 h2 hf => ?_)
  refine p_if_eq (tgt := 17) (q := r1 = 0) dX11_whole_5 (by decide) Iff.rfl (fun hc => ?_) (fun hc => ?_)
  · replace hf := Eq.mp (if_pos hc) hf
    refine p_sub (ls' := []) [] rfl ?_
    exact t_X11_whole_17 h0   _ hf
  · replace hf := Eq.mp (if_neg hc) hf
    refine p_aload_n dX11_whole_8 rfl 0 rfl ?_
    refine p_bipush dX11_whole_9 (by decide) (by decide) ?_
    refine p_callVi dX11_whole_11 M_X11_isSign (Or.inr rfl) [vi 61] (t_X11_isSign _ _ _ _ h0 hf) ok_X11_isSign rfl (c := 11) (by decide) h0 rfl tb_1103 ⟨tb_1105, ts_76⟩ rfl (Nat.le_of_ble_eq_true rfl) ⟨rfl, rfl⟩ ⟨by decide, by decide⟩ ⟨by decide, by decide⟩ (fun r3 h4 hf => ?_)
    refine p_if_ne (tgt := 19) (q := r3 ≠ 0) dX11_whole_14 (by decide) Iff.rfl (fun hc => ?_) (fun hc => ?_)
    · replace hf := Eq.mp (if_pos hc) hf
      refine p_aload_n dX11_whole_19 rfl 0 rfl ?_
      refine p_callVv dX11_whole_20 M_X11_next rfl [] (t_X11_next _ _ _ h0 hf) ok_X11_next rfl (c := 11) (by decide) h0 rfl tb_1090 ⟨tb_1092, ts_73⟩ rfl (Nat.le_of_ble_eq_true rfl) ⟨rfl, rfl⟩ ⟨by decide, by decide⟩ ⟨by decide, by decide⟩ (fun _ h5 hf => ?_)
      refine p_aload_n dX11_whole_23 rfl 0 rfl ?_
      refine p_bipush dX11_whole_24 (by decide) (by decide) ?_
      refine p_callVi dX11_whole_26 M_X11_isSign (Or.inr rfl) [vi 45] (t_X11_isSign _ _ _ _ h0 hf) ok_X11_isSign rfl (c := 11) (by decide) h0 rfl tb_1103 ⟨tb_1105, ts_76⟩ rfl (Nat.le_of_ble_eq_true rfl) ⟨rfl, rfl⟩ ⟨by decide, by decide⟩ ⟨by decide, by decide⟩ (fun r6 h7 hf => ?_)
      refine p_istore_n (ls' := [(1, vi r6), (0, vr 11 a0 0)]) dX11_whole_29 rfl (by decide) rfl ?_
      refine p_iload_n dX11_whole_30 rfl 0 rfl ?_
      refine p_if_eq (tgt := 38) (q := r6 = 0) dX11_whole_31 (by decide) Iff.rfl (fun hc => ?_) (fun hc => ?_)
      · replace hf := Eq.mp (if_pos hc) hf
        refine p_sub (ls' := [(0, vr 11 a0 0), (1, vi r6)]) [1, 0] rfl ?_
        exact t_X11_whole_38 h0  _ _ hf
      · replace hf := Eq.mp (if_neg hc) hf
        refine p_aload_n dX11_whole_34 rfl 1 rfl ?_
        refine p_callVv dX11_whole_35 M_X11_next rfl [] (t_X11_next _ _ _ h0 hf) ok_X11_next rfl (c := 11) (by decide) h0 rfl tb_1090 ⟨tb_1092, ts_73⟩ rfl (Nat.le_of_ble_eq_true rfl) ⟨rfl, rfl⟩ ⟨by decide, by decide⟩ ⟨by decide, by decide⟩ (fun _ h22 hf => ?_)
        refine p_sub (ls' := [(0, vr 11 a0 0), (1, vi r6)]) [1, 0] rfl ?_
        exact t_X11_whole_38 h0  _ _ hf
    · replace hf := Eq.mp (if_neg hc) hf
      refine p_sub (ls' := []) [] rfl ?_
      exact t_X11_whole_17 h0   _ hf
theorem ok_X11_whole : mOK M_X11_whole 0 := ⟨tb_1098, tb_9, by decide +kernel⟩
abbrev M_X11_reads : MD := (yX11_reads, cX11_reads, 1, some .int)
abbrev rm_X11_reads : Room := { frames := 4, cells := 0, slots := 0, locals := 87 }
def w_X11_reads_34 (K : Int → Hh → Prop) (a0 : Int) (s0 : Int) (h : Hh) : Prop := K s0 h
set_option maxRecDepth 100000 in
set_option maxHeartbeats 4000000 in
theorem t_X11_reads_34 {G : Gx} {n0 : Int} {K : Int → Hh → Prop} {a0 : Int} (h0 : 0 ≤ a0)  (s0 : Int) (h : Hh) (hf : w_X11_reads_34 K  a0 s0 h) : PW G M_X11_reads rm_X11_reads 0 0 [] n0 K 34 [] [vi s0] [] 0 0 h := by
  unfold w_X11_reads_34 at hf
  exact p_iret dX11_reads_34 rfl (by decide) (by decide) (fun _ h => absurd h List.not_mem_nil) hf
def w_X11_reads (a0 : Int) (h : Hh) (K : Int → Hh → Prop) : Prop := hb (up h a0 2 0) fun h1 => hb (up h1 a0 6 0) fun h2 => hb (up h2 a0 10 0) fun h3 => w_X11_next a0 h3 (fun _ h4 => w_X11_whole a0 h4 (fun r5 h6 => if r5 = 0 then (w_X11_reads_34 K  a0 (h6 a0 4) h6) else (w_X11_reads_34 K  a0 (-1) h6)))
set_option maxRecDepth 100000 in
set_option maxHeartbeats 4000000 in
theorem t_X11_reads {G : Gx} (a0 : Int) (h : Hh) (K : Int → Hh → Prop) (h0 : 0 ≤ a0) (hf : w_X11_reads a0 h K) : CT G M_X11_reads rm_X11_reads 0 0 [] [vr 11 a0 0] h K := by
  unfold w_X11_reads at hf
  refine CT.of (ls0 := [(0, vr 11 a0 0)]) (plainFor_of_name (by decide +kernel)) (by decide +kernel) (Nat.le_of_ble_eq_true rfl) rfl rfl ?_
  refine p_aload_n dX11_reads_0 rfl 0 rfl ?_
  refine p_iconst dX11_reads_1 (by decide) ?_
  refine p_puti (c := 11) dX11_reads_2 2 tb_895 (by decide) (by decide) (Or.inl rfl) h0 rfl rfl (fun _ => by decide) (up h a0 2 0) rfl ?_
  replace hf := hb_e hf
  generalize up h a0 2 0 = h1 at hf ⊢
  refine p_aload_n dX11_reads_5 rfl 0 rfl ?_
  refine p_iconst dX11_reads_6 (by decide) ?_
  refine p_puti (c := 11) dX11_reads_7 6 tb_899 (by decide) (by decide) (Or.inl rfl) h0 rfl rfl (fun _ => by decide) (up h1 a0 6 0) rfl ?_
  replace hf := hb_e hf
  generalize up h1 a0 6 0 = h2 at hf ⊢
  refine p_aload_n dX11_reads_10 rfl 0 rfl ?_
  refine p_iconst dX11_reads_11 (by decide) ?_
  refine p_puti (c := 11) dX11_reads_12 10 tb_903 (by decide) (by decide) (Or.inl rfl) h0 rfl rfl (fun _ => by decide) (up h2 a0 10 0) rfl ?_
  replace hf := hb_e hf
  generalize up h2 a0 10 0 = h3 at hf ⊢
  refine p_aload_n dX11_reads_15 rfl 0 rfl ?_
  refine p_callVv dX11_reads_16 M_X11_next rfl [] (t_X11_next _ _ _ h0 hf) ok_X11_next rfl (c := 11) (by decide) h0 rfl tb_1090 ⟨tb_1092, ts_73⟩ rfl (Nat.le_of_ble_eq_true rfl) ⟨rfl, rfl⟩ ⟨by decide, by decide⟩ ⟨by decide, by decide⟩ (fun _ h4 hf => ?_)
  refine p_aload_n dX11_reads_19 rfl 0 rfl ?_
  refine p_callVi dX11_reads_20 M_X11_whole (Or.inr rfl) [] (t_X11_whole _ _ _ h0 hf) ok_X11_whole rfl (c := 11) (by decide) h0 rfl tb_1095 ⟨tb_1097, ts_74⟩ rfl (Nat.le_of_ble_eq_true rfl) ⟨rfl, rfl⟩ ⟨by decide, by decide⟩ ⟨by decide, by decide⟩ (fun r5 h6 hf => ?_)
  refine p_if_eq (tgt := 30) (q := r5 = 0) dX11_reads_23 (by decide) Iff.rfl (fun hc => ?_) (fun hc => ?_)
  · replace hf := Eq.mp (if_pos hc) hf
    refine p_aload_n dX11_reads_30 rfl 0 rfl ?_
    refine p_get (c := 11) (vi (h6 a0 4)) dX11_reads_31 4 tb_897 (by decide) (by decide) (Or.inl rfl) h0 rfl rfl ?_
    refine p_sub (ls' := []) [] rfl ?_
    exact t_X11_reads_34 h0  _ _ hf
  · replace hf := Eq.mp (if_neg hc) hf
    refine p_iconst dX11_reads_26 (by decide) ?_
    refine p_goto (tgt := 34) dX11_reads_27 (by decide) ?_
    refine p_sub (ls' := []) [] rfl ?_
    exact t_X11_reads_34 h0  _ _ hf
theorem ok_X11_reads : mOK M_X11_reads 0 := ⟨tb_1089, tb_9, by decide +kernel⟩
abbrev M_X11_fault : MD := (yX11_fault, cX11_fault, 1, some .int)
abbrev rm_X11_fault : Room := { frames := 5, cells := 0, slots := 0, locals := 107 }
def w_X11_fault (a0 : Int) (h : Hh) (K : Int → Hh → Prop) : Prop := w_X11_reads a0 h (fun r1 h2 => K r1 h2)
set_option maxRecDepth 100000 in
set_option maxHeartbeats 4000000 in
theorem t_X11_fault {G : Gx} (a0 : Int) (h : Hh) (K : Int → Hh → Prop) (h0 : 0 ≤ a0) (hf : w_X11_fault a0 h K) : CT G M_X11_fault rm_X11_fault 0 0 [] [vr 11 a0 0] h K := by
  unfold w_X11_fault at hf
  refine CT.of (ls0 := [(0, vr 11 a0 0)]) (plainFor_of_name (by decide +kernel)) (by decide +kernel) (Nat.le_of_ble_eq_true rfl) rfl rfl ?_
  refine p_aload_n dX11_fault_0 rfl 0 rfl ?_
  refine p_callVi dX11_fault_1 M_X11_reads (Or.inl rfl) [] (t_X11_reads _ _ _ h0 hf) ok_X11_reads rfl (c := 11) (by decide) h0 rfl tb_1086 ⟨tb_1088, ts_72⟩ rfl (Nat.le_of_ble_eq_true rfl) ⟨rfl, rfl⟩ ⟨by decide, by decide⟩ ⟨by decide, by decide⟩ (fun r1 h2 hf => ?_)
  exact p_iret dX11_fault_4 rfl (by decide) (by decide) (fun _ h => absurd h List.not_mem_nil) hf
theorem ok_X11_fault : mOK M_X11_fault 0 := ⟨tb_1085, tb_9, by decide +kernel⟩
abbrev M_X11_rule : MD := (yX11_rule, cX11_rule, 2, some .int)
abbrev rm_X11_rule : Room := { frames := 5, cells := 0, slots := 0, locals := 107 }
def w_X11_rule_17 (K : Int → Hh → Prop) (a0 : Int) (h : Hh) : Prop := K (-1) h
set_option maxRecDepth 100000 in
set_option maxHeartbeats 4000000 in
theorem t_X11_rule_17 {G : Gx} {n0 : Int} {K : Int → Hh → Prop} {a0 : Int} (h0 : 0 ≤ a0)  (h : Hh) (hf : w_X11_rule_17 K  a0  h) : PW G M_X11_rule rm_X11_rule 0 0 [] n0 K 17 [] [] [] 0 0 h := by
  unfold w_X11_rule_17 at hf
  refine p_iconst dX11_rule_17 (by decide) ?_
  exact p_iret dX11_rule_18 rfl (by decide) (by decide) (fun _ h => absurd h List.not_mem_nil) hf
def w_X11_rule_47 (K : Int → Hh → Prop) (X99 : Hh → Prop) (a0 : Int) : Nat → Int → Hh → Prop
  | 0, _, _ => False
  | n + 1, v1, h => if v1 ≥ h a0 6 then (X99  h) else (((0 : Int) ≤ v1 ∧ (v1 : Int) < 5) ∧ (((0 : Int) ≤ w32 ((w32 (5 * (h a0 11))) + v1) ∧ (w32 ((w32 (5 * (h a0 11))) + v1) : Int) < 30) ∧ (hb (up h (a0 + 7) (w32 ((w32 (5 * (h a0 11))) + v1)) (h (a0 + 3) v1)) fun h9 => ((0 : Int) ≤ w32 ((w32 (5 * (h9 a0 11))) + v1) ∧ (w32 ((w32 (5 * (h9 a0 11))) + v1) : Int) < 30) ∧ (hb (up h9 (a0 + 8) (w32 ((w32 (5 * (h9 a0 11))) + v1)) (h9 (a0 + 4) v1)) fun h11 => vb (w32 (v1 + 1)) fun z12 => w_X11_rule_47 K X99 a0 n z12 h11))))
set_option maxRecDepth 100000 in
set_option maxHeartbeats 4000000 in
theorem t_X11_rule_47 {G : Gx} {n0 : Int} {K : Int → Hh → Prop} {X99 : Hh → Prop} {a0 : Int} (h0 : 0 ≤ a0) (hX99 : ∀ (h : Hh), X99  h → PW G M_X11_rule rm_X11_rule 0 0 [] n0 K 99 [(0, vr 11 a0 0)] [] [] 0 0 h) : ∀ (n : Nat) (v1 : Int) (h : Hh), w_X11_rule_47 K X99 a0 n v1 h → PW G M_X11_rule rm_X11_rule 0 0 [] n0 K 47 [(0, vr 11 a0 0), (1, vi v1)] [] [] 0 0 h := by
  intro n
  induction n with
  | zero =>
    intro v1 h hf
    rw [w_X11_rule_47] at hf
    exact hf.elim
  | succ n ih =>
    intro v1 h hf
    rw [w_X11_rule_47] at hf
    refine p_iload_n dX11_rule_47 rfl 1 rfl ?_
    refine p_aload_n dX11_rule_48 rfl 0 rfl ?_
    refine p_get (c := 11) (vi (h a0 6)) dX11_rule_49 6 tb_899 (by decide) (by decide) (Or.inl rfl) h0 rfl rfl ?_
    refine p_icmp_ge (tgt := 99) (q := v1 ≥ h a0 6) dX11_rule_52 (by decide) Iff.rfl (fun hc => ?_) (fun hc => ?_)
    · replace hf := Eq.mp (if_pos hc) hf
      refine p_sub (ls' := [(0, vr 11 a0 0)]) [0] rfl ?_
      exact hX99  _ hf
    · replace hf := Eq.mp (if_neg hc) hf
      refine p_aload_n dX11_rule_55 rfl 0 rfl ?_
      refine p_lay (c := 11) (tq := 100) (n := 30) dX11_rule_56 14 7 tb_907 (by decide) (by decide) h0 (by decide) (by decide) (fun _ => rfl) (vr 100 (a0 + 7) 30) rfl ?_
      refine p_iconst dX11_rule_59 (by decide) ?_
      refine p_aload_n dX11_rule_60 rfl 0 rfl ?_
      refine p_get (c := 11) (vi (h a0 11)) dX11_rule_61 11 tb_904 (by decide) (by decide) (Or.inl rfl) h0 rfl rfl ?_
      refine p_imul dX11_rule_64 ?_
      refine p_iload_n dX11_rule_65 rfl 1 rfl ?_
      refine p_iadd dX11_rule_66 ?_
      refine p_aload_n dX11_rule_67 rfl 0 rfl ?_
      refine p_lay (c := 11) (tq := 100) (n := 5) dX11_rule_68 8 3 tb_901 (by decide) (by decide) h0 (by decide) (by decide) (fun _ => rfl) (vr 100 (a0 + 3) 5) rfl ?_
      refine p_iload_n dX11_rule_71 rfl 1 rfl ?_
      obtain ⟨c7, hf⟩ := hf
      refine p_iald dX11_rule_72 (nnk h0 (by decide)) c7 ?_
      obtain ⟨c8, hf⟩ := hf
      refine p_iast dX11_rule_73 (nnk h0 (by decide)) c8 ?_
      replace hf := hb_e hf
      generalize up h (a0 + 7) (w32 ((w32 (5 * (h a0 11))) + v1)) (h (a0 + 3) v1) = h9 at hf ⊢
      refine p_aload_n dX11_rule_74 rfl 0 rfl ?_
      refine p_lay (c := 11) (tq := 100) (n := 30) dX11_rule_75 15 8 tb_908 (by decide) (by decide) h0 (by decide) (by decide) (fun _ => rfl) (vr 100 (a0 + 8) 30) rfl ?_
      refine p_iconst dX11_rule_78 (by decide) ?_
      refine p_aload_n dX11_rule_79 rfl 0 rfl ?_
      refine p_get (c := 11) (vi (h9 a0 11)) dX11_rule_80 11 tb_904 (by decide) (by decide) (Or.inl rfl) h0 rfl rfl ?_
      refine p_imul dX11_rule_83 ?_
      refine p_iload_n dX11_rule_84 rfl 1 rfl ?_
      refine p_iadd dX11_rule_85 ?_
      refine p_aload_n dX11_rule_86 rfl 0 rfl ?_
      refine p_lay (c := 11) (tq := 100) (n := 5) dX11_rule_87 9 4 tb_902 (by decide) (by decide) h0 (by decide) (by decide) (fun _ => rfl) (vr 100 (a0 + 4) 5) rfl ?_
      refine p_iload_n dX11_rule_90 rfl 1 rfl ?_
      refine p_iald dX11_rule_91 (nnk h0 (by decide)) c7 ?_
      obtain ⟨c10, hf⟩ := hf
      refine p_iast dX11_rule_92 (nnk h0 (by decide)) c10 ?_
      replace hf := hb_e hf
      generalize up h9 (a0 + 8) (w32 ((w32 (5 * (h9 a0 11))) + v1)) (h9 (a0 + 4) v1) = h11 at hf ⊢
      refine p_iinc (ls' := [(1, vi (w32 (v1 + 1))), (0, vr 11 a0 0)]) dX11_rule_93 1 rfl (by decide) rfl ?_
      replace hf := vb_e hf
      generalize w32 (v1 + 1) = z12 at hf ⊢
      refine p_goto (tgt := 47) dX11_rule_96 (by decide) ?_
      refine p_sub (ls' := [(0, vr 11 a0 0), (1, vi z12)]) [1, 0] rfl ?_
      exact ih _ _ hf
def w_X11_rule (a0 : Int) (h : Hh) (K : Int → Hh → Prop) : Prop := if h a0 11 = 6 then (w_X11_rule_17 K  a0  h) else (w_X11_reads a0 h (fun r1 h2 => if r1 = (-1) then (((0 : Int) ≤ h2 a0 11 ∧ (h2 a0 11 : Int) < 6) ∧ (hb (up h2 (a0 + 5) (h2 a0 11) (h2 a0 6)) fun h4 => ((0 : Int) ≤ h4 a0 11 ∧ (h4 a0 11 : Int) < 6) ∧ (hb (up h4 (a0 + 6) (h4 a0 11) (h4 a0 10)) fun h6 => w_X11_rule_47 K (fun h13 => hb (up h13 a0 1 0) fun h14 => hb (up h14 a0 11 (w32 ((h14 a0 11) + 1))) fun h15 => K (w32 ((h15 a0 11) - 1)) h15) a0 NF 0 h6))) else (w_X11_rule_17 K  a0  h2)))
set_option maxRecDepth 100000 in
set_option maxHeartbeats 4000000 in
theorem t_X11_rule {G : Gx} (a0 : Int) (h : Hh) (K : Int → Hh → Prop) (h0 : 0 ≤ a0) (hf : w_X11_rule a0 h K) : CT G M_X11_rule rm_X11_rule 0 0 [] [vr 11 a0 0] h K := by
  unfold w_X11_rule at hf
  refine CT.of (ls0 := [(0, vr 11 a0 0)]) (plainFor_of_name (by decide +kernel)) (by decide +kernel) (Nat.le_of_ble_eq_true rfl) rfl rfl ?_
  refine p_aload_n dX11_rule_0 rfl 0 rfl ?_
  refine p_get (c := 11) (vi (h a0 11)) dX11_rule_1 11 tb_904 (by decide) (by decide) (Or.inl rfl) h0 rfl rfl ?_
  refine p_bipush dX11_rule_4 (by decide) (by decide) ?_
  refine p_icmp_eq (tgt := 17) (q := h a0 11 = 6) dX11_rule_6 (by decide) Iff.rfl (fun hc => ?_) (fun hc => ?_)
  · replace hf := Eq.mp (if_pos hc) hf
    refine p_sub (ls' := []) [] rfl ?_
    exact t_X11_rule_17 h0   _ hf
  · replace hf := Eq.mp (if_neg hc) hf
    refine p_aload_n dX11_rule_9 rfl 0 rfl ?_
    refine p_callVi dX11_rule_10 M_X11_reads (Or.inl rfl) [] (t_X11_reads _ _ _ h0 hf) ok_X11_reads rfl (c := 11) (by decide) h0 rfl tb_1086 ⟨tb_1088, ts_72⟩ rfl (Nat.le_of_ble_eq_true rfl) ⟨rfl, rfl⟩ ⟨by decide, by decide⟩ ⟨by decide, by decide⟩ (fun r1 h2 hf => ?_)
    refine p_iconst dX11_rule_13 (by decide) ?_
    refine p_icmp_eq (tgt := 19) (q := r1 = (-1)) dX11_rule_14 (by decide) Iff.rfl (fun hc => ?_) (fun hc => ?_)
    · replace hf := Eq.mp (if_pos hc) hf
      refine p_aload_n dX11_rule_19 rfl 0 rfl ?_
      refine p_lay (c := 11) (tq := 100) (n := 6) dX11_rule_20 12 5 tb_905 (by decide) (by decide) h0 (by decide) (by decide) (fun _ => rfl) (vr 100 (a0 + 5) 6) rfl ?_
      refine p_aload_n dX11_rule_23 rfl 0 rfl ?_
      refine p_get (c := 11) (vi (h2 a0 11)) dX11_rule_24 11 tb_904 (by decide) (by decide) (Or.inl rfl) h0 rfl rfl ?_
      refine p_aload_n dX11_rule_27 rfl 0 rfl ?_
      refine p_get (c := 11) (vi (h2 a0 6)) dX11_rule_28 6 tb_899 (by decide) (by decide) (Or.inl rfl) h0 rfl rfl ?_
      obtain ⟨c3, hf⟩ := hf
      refine p_iast dX11_rule_31 (nnk h0 (by decide)) c3 ?_
      replace hf := hb_e hf
      generalize up h2 (a0 + 5) (h2 a0 11) (h2 a0 6) = h4 at hf ⊢
      refine p_aload_n dX11_rule_32 rfl 0 rfl ?_
      refine p_lay (c := 11) (tq := 100) (n := 6) dX11_rule_33 13 6 tb_906 (by decide) (by decide) h0 (by decide) (by decide) (fun _ => rfl) (vr 100 (a0 + 6) 6) rfl ?_
      refine p_aload_n dX11_rule_36 rfl 0 rfl ?_
      refine p_get (c := 11) (vi (h4 a0 11)) dX11_rule_37 11 tb_904 (by decide) (by decide) (Or.inl rfl) h0 rfl rfl ?_
      refine p_aload_n dX11_rule_40 rfl 0 rfl ?_
      refine p_get (c := 11) (vi (h4 a0 10)) dX11_rule_41 10 tb_903 (by decide) (by decide) (Or.inl rfl) h0 rfl rfl ?_
      obtain ⟨c5, hf⟩ := hf
      refine p_iast dX11_rule_44 (nnk h0 (by decide)) c5 ?_
      replace hf := hb_e hf
      generalize up h4 (a0 + 6) (h4 a0 11) (h4 a0 10) = h6 at hf ⊢
      refine p_iconst dX11_rule_45 (by decide) ?_
      refine p_istore_n (ls' := [(1, vi 0), (0, vr 11 a0 0)]) dX11_rule_46 rfl (by decide) rfl ?_
      refine p_sub (ls' := [(0, vr 11 a0 0), (1, vi 0)]) [1, 0] rfl ?_
      refine t_X11_rule_47 h0 ?_ NF _ _ hf
      · intro h13 hf
        refine p_aload_n dX11_rule_99 rfl 0 rfl ?_
        refine p_iconst dX11_rule_100 (by decide) ?_
        refine p_puti (c := 11) dX11_rule_101 1 tb_894 (by decide) (by decide) (Or.inl rfl) h0 rfl rfl (fun _ => by decide) (up h13 a0 1 0) rfl ?_
        replace hf := hb_e hf
        generalize up h13 a0 1 0 = h14 at hf ⊢
        refine p_aload_n dX11_rule_104 rfl 0 rfl ?_
        refine p_dup dX11_rule_105 (fun _ q => by cases q) ?_
        refine p_get (c := 11) (vi (h14 a0 11)) dX11_rule_106 11 tb_904 (by decide) (by decide) (Or.inl rfl) h0 rfl rfl ?_
        refine p_iconst dX11_rule_109 (by decide) ?_
        refine p_iadd dX11_rule_110 ?_
        refine p_puti (c := 11) dX11_rule_111 11 tb_904 (by decide) (by decide) (Or.inl rfl) h0 rfl rfl (fun _ => by decide) (up h14 a0 11 (w32 ((h14 a0 11) + 1))) rfl ?_
        replace hf := hb_e hf
        generalize up h14 a0 11 (w32 ((h14 a0 11) + 1)) = h15 at hf ⊢
        refine p_aload_n dX11_rule_114 rfl 0 rfl ?_
        refine p_get (c := 11) (vi (h15 a0 11)) dX11_rule_115 11 tb_904 (by decide) (by decide) (Or.inl rfl) h0 rfl rfl ?_
        refine p_iconst dX11_rule_118 (by decide) ?_
        refine p_isub dX11_rule_119 ?_
        exact p_iret dX11_rule_120 rfl (by decide) (by decide) (fun _ h => absurd h List.not_mem_nil) hf
    · replace hf := Eq.mp (if_neg hc) hf
      refine p_sub (ls' := []) [] rfl ?_
      exact t_X11_rule_17 h0   _ hf
theorem ok_X11_rule : mOK M_X11_rule 0 := ⟨tb_1118, tb_9, by decide +kernel⟩
abbrev M_X11_isTerm : MD := (yX11_isTerm, cX11_isTerm, 3, some .boolean)
abbrev rm_X11_isTerm : Room := { frames := 1, cells := 0, slots := 0, locals := 25 }
def w_X11_isTerm_39 (K : Int → Hh → Prop) (a0 : Int) (s0 : Int) (h : Hh) : Prop := (s0 = 0 ∨ s0 = 1) ∧ (K s0 h)
set_option maxRecDepth 100000 in
set_option maxHeartbeats 4000000 in
theorem t_X11_isTerm_39 {G : Gx} {n0 : Int} {K : Int → Hh → Prop} {a0 : Int} (h0 : 0 ≤ a0)  (s0 : Int) (h : Hh) (hf : w_X11_isTerm_39 K  a0 s0 h) : PW G M_X11_isTerm rm_X11_isTerm 0 0 [] n0 K 39 [] [vi s0] [] 0 0 h := by
  unfold w_X11_isTerm_39 at hf
  obtain ⟨c3, hf⟩ := hf
  exact p_zret dX11_isTerm_39 rfl (by decide) (by decide) (fun _ h => absurd h List.not_mem_nil) c3 hf
def w_X11_isTerm_38 (K : Int → Hh → Prop) (a0 : Int) (h : Hh) : Prop := w_X11_isTerm_39 K  a0 0 h
set_option maxRecDepth 100000 in
set_option maxHeartbeats 4000000 in
theorem t_X11_isTerm_38 {G : Gx} {n0 : Int} {K : Int → Hh → Prop} {a0 : Int} (h0 : 0 ≤ a0)  (h : Hh) (hf : w_X11_isTerm_38 K  a0  h) : PW G M_X11_isTerm rm_X11_isTerm 0 0 [] n0 K 38 [] [] [] 0 0 h := by
  unfold w_X11_isTerm_38 at hf
  refine p_iconst dX11_isTerm_38 (by decide) ?_
  exact t_X11_isTerm_39 h0  _ _ hf
def w_X11_isTerm (a0 x1 x2 : Int) (h : Hh) (K : Int → Hh → Prop) : Prop := w_X11_in x1 0 (w32 ((h a0 11) - 1)) h (fun r1 h2 => if r1 = 0 then (w_X11_isTerm_38 K  a0  h2) else (((0 : Int) ≤ x1 ∧ (x1 : Int) < 6) ∧ (w_X11_in x2 0 (w32 ((h2 (a0 + 5) x1) - 1)) h2 (fun r5 h6 => if r5 = 0 then (w_X11_isTerm_38 K  a0  h6) else (w_X11_isTerm_39 K  a0 1 h6)))))
set_option maxRecDepth 100000 in
set_option maxHeartbeats 4000000 in
theorem t_X11_isTerm {G : Gx} (a0 x1 x2 : Int) (h : Hh) (K : Int → Hh → Prop) (h0 : 0 ≤ a0) (hf : w_X11_isTerm a0 x1 x2 h K) : CT G M_X11_isTerm rm_X11_isTerm 0 0 [] [vr 11 a0 0, vi x1, vi x2] h K := by
  unfold w_X11_isTerm at hf
  refine CT.of (ls0 := [(0, vr 11 a0 0), (1, vi x1), (2, vi x2)]) (plainFor_of_name (by decide +kernel)) (by decide +kernel) (Nat.le_of_ble_eq_true rfl) rfl rfl ?_
  refine p_iload_n dX11_isTerm_0 rfl 1 rfl ?_
  refine p_i2l dX11_isTerm_1 ?_
  refine p_lconst (z := 0) dX11_isTerm_2 rfl ?_
  refine p_aload_n dX11_isTerm_3 rfl 0 rfl ?_
  refine p_get (c := 11) (vi (h a0 11)) dX11_isTerm_4 11 tb_904 (by decide) (by decide) (Or.inl rfl) h0 rfl rfl ?_
  refine p_iconst dX11_isTerm_7 (by decide) ?_
  refine p_isub dX11_isTerm_8 ?_
  refine p_i2l dX11_isTerm_9 ?_
  refine p_callSi dX11_isTerm_10 M_X11_in (Or.inr rfl) [vl x1, vl 0, vl (w32 ((h a0 11) - 1))] (t_X11_in _ _ _ _ _ hf) ok_X11_in rfl tb_1079 tb_1080 rfl (Nat.le_of_ble_eq_true rfl) ⟨rfl, rfl⟩ ⟨by decide, by decide⟩ ⟨by decide, by decide⟩ (fun r1 h2 hf => ?_)
  refine p_if_eq (tgt := 38) (q := r1 = 0) dX11_isTerm_13 (by decide) Iff.rfl (fun hc => ?_) (fun hc => ?_)
  · replace hf := Eq.mp (if_pos hc) hf
    refine p_sub (ls' := []) [] rfl ?_
    exact t_X11_isTerm_38 h0   _ hf
  · replace hf := Eq.mp (if_neg hc) hf
    refine p_iload_n dX11_isTerm_16 rfl 2 rfl ?_
    refine p_i2l dX11_isTerm_17 ?_
    refine p_lconst (z := 0) dX11_isTerm_18 rfl ?_
    refine p_aload_n dX11_isTerm_19 rfl 0 rfl ?_
    refine p_lay (c := 11) (tq := 100) (n := 6) dX11_isTerm_20 12 5 tb_905 (by decide) (by decide) h0 (by decide) (by decide) (fun _ => rfl) (vr 100 (a0 + 5) 6) rfl ?_
    refine p_iload_n dX11_isTerm_23 rfl 1 rfl ?_
    obtain ⟨c4, hf⟩ := hf
    refine p_iald dX11_isTerm_24 (nnk h0 (by decide)) c4 ?_
    refine p_iconst dX11_isTerm_25 (by decide) ?_
    refine p_isub dX11_isTerm_26 ?_
    refine p_i2l dX11_isTerm_27 ?_
    refine p_callSi dX11_isTerm_28 M_X11_in (Or.inr rfl) [vl x2, vl 0, vl (w32 ((h2 (a0 + 5) x1) - 1))] (t_X11_in _ _ _ _ _ hf) ok_X11_in rfl tb_1079 tb_1080 rfl (Nat.le_of_ble_eq_true rfl) ⟨rfl, rfl⟩ ⟨by decide, by decide⟩ ⟨by decide, by decide⟩ (fun r5 h6 hf => ?_)
    refine p_if_eq (tgt := 38) (q := r5 = 0) dX11_isTerm_31 (by decide) Iff.rfl (fun hc => ?_) (fun hc => ?_)
    · replace hf := Eq.mp (if_pos hc) hf
      refine p_sub (ls' := []) [] rfl ?_
      exact t_X11_isTerm_38 h0   _ hf
    · replace hf := Eq.mp (if_neg hc) hf
      refine p_iconst dX11_isTerm_34 (by decide) ?_
      refine p_goto (tgt := 39) dX11_isTerm_35 (by decide) ?_
      refine p_sub (ls' := []) [] rfl ?_
      exact t_X11_isTerm_39 h0  _ _ hf
theorem ok_X11_isTerm : mOK M_X11_isTerm 2 := ⟨tb_1129, tb_9, by decide +kernel⟩
abbrev M_X11_told : MD := (yX11_told, cX11_told, 4, some .int)
abbrev rm_X11_told : Room := { frames := 2, cells := 0, slots := 0, locals := 47 }
def w_X11_told_70 (K : Int → Hh → Prop) (a0 : Int) (h : Hh) : Prop := K (-2147483648) h
set_option maxRecDepth 100000 in
set_option maxHeartbeats 4000000 in
theorem t_X11_told_70 {G : Gx} {n0 : Int} {K : Int → Hh → Prop} {a0 : Int} (h0 : 0 ≤ a0)  (h : Hh) (hf : w_X11_told_70 K  a0  h) : PW G M_X11_told rm_X11_told 0 0 [] n0 K 70 [] [] [] 0 0 h := by
  unfold w_X11_told_70 at hf
  refine p_ldc (z := (-2147483648)) dX11_told_70 tb_1123 (by decide) ?_
  exact p_iret dX11_told_72 rfl (by decide) (by decide) (fun _ h => absurd h List.not_mem_nil) hf
def w_X11_told_102 (K : Int → Hh → Prop) (a0 : Int) (s0 : Int) (h : Hh) : Prop := K s0 h
set_option maxRecDepth 100000 in
set_option maxHeartbeats 4000000 in
theorem t_X11_told_102 {G : Gx} {n0 : Int} {K : Int → Hh → Prop} {a0 : Int} (h0 : 0 ≤ a0)  (s0 : Int) (h : Hh) (hf : w_X11_told_102 K  a0 s0 h) : PW G M_X11_told rm_X11_told 0 0 [] n0 K 102 [] [vi s0] [] 0 0 h := by
  unfold w_X11_told_102 at hf
  exact p_iret dX11_told_102 rfl (by decide) (by decide) (fun _ h => absurd h List.not_mem_nil) hf
def w_X11_told (a0 x1 x2 : Int) (h : Hh) (K : Int → Hh → Prop) : Prop := w_X11_in x1 0 (w32 ((h a0 11) - 1)) h (fun r1 h2 => if r1 ≠ 0 then (if x2 ≠ 0 then (if x2 ≠ 1 then (vb (Int.tmod x2 10) fun z3 => w_X11_in x2 10 29 h2 (fun r4 h5 => if r4 = 0 then (w_X11_told_70 K  a0  h5) else (w_X11_isTerm a0 x1 z3 h5 (fun r6 h7 => if r6 ≠ 0 then (if x2 ≥ 20 then (((0 : Int) ≤ w32 ((w32 (5 * x1)) + z3) ∧ (w32 ((w32 (5 * x1)) + z3) : Int) < 30) ∧ (w_X11_told_102 K  a0 (h7 (a0 + 8) (w32 ((w32 (5 * x1)) + z3))) h7)) else (((0 : Int) ≤ w32 ((w32 (5 * x1)) + z3) ∧ (w32 ((w32 (5 * x1)) + z3) : Int) < 30) ∧ (w_X11_told_102 K  a0 (h7 (a0 + 7) (w32 ((w32 (5 * x1)) + z3))) h7))) else (w_X11_told_70 K  a0  h7))))) else (((0 : Int) ≤ x1 ∧ (x1 : Int) < 6) ∧ (K (h2 (a0 + 6) x1) h2))) else (((0 : Int) ≤ x1 ∧ (x1 : Int) < 6) ∧ (K (h2 (a0 + 5) x1) h2))) else (K (-2147483648) h2))
set_option maxRecDepth 100000 in
set_option maxHeartbeats 4000000 in
theorem t_X11_told {G : Gx} (a0 x1 x2 : Int) (h : Hh) (K : Int → Hh → Prop) (h0 : 0 ≤ a0) (hf : w_X11_told a0 x1 x2 h K) : CT G M_X11_told rm_X11_told 0 0 [] [vr 11 a0 0, vi x1, vi x2] h K := by
  unfold w_X11_told at hf
  refine CT.of (ls0 := [(0, vr 11 a0 0), (1, vi x1), (2, vi x2)]) (plainFor_of_name (by decide +kernel)) (by decide +kernel) (Nat.le_of_ble_eq_true rfl) rfl rfl ?_
  refine p_iload_n dX11_told_0 rfl 1 rfl ?_
  refine p_i2l dX11_told_1 ?_
  refine p_lconst (z := 0) dX11_told_2 rfl ?_
  refine p_aload_n dX11_told_3 rfl 0 rfl ?_
  refine p_get (c := 11) (vi (h a0 11)) dX11_told_4 11 tb_904 (by decide) (by decide) (Or.inl rfl) h0 rfl rfl ?_
  refine p_iconst dX11_told_7 (by decide) ?_
  refine p_isub dX11_told_8 ?_
  refine p_i2l dX11_told_9 ?_
  refine p_callSi dX11_told_10 M_X11_in (Or.inr rfl) [vl x1, vl 0, vl (w32 ((h a0 11) - 1))] (t_X11_in _ _ _ _ _ hf) ok_X11_in rfl tb_1079 tb_1080 rfl (Nat.le_of_ble_eq_true rfl) ⟨rfl, rfl⟩ ⟨by decide, by decide⟩ ⟨by decide, by decide⟩ (fun r1 h2 hf => ?_)
  refine p_if_ne (tgt := 19) (q := r1 ≠ 0) dX11_told_13 (by decide) Iff.rfl (fun hc => ?_) (fun hc => ?_)
  · replace hf := Eq.mp (if_pos hc) hf
    refine p_iload_n dX11_told_19 rfl 2 rfl ?_
    refine p_if_ne (tgt := 30) (q := x2 ≠ 0) dX11_told_20 (by decide) Iff.rfl (fun hc => ?_) (fun hc => ?_)
    · replace hf := Eq.mp (if_pos hc) hf
      refine p_iload_n dX11_told_30 rfl 2 rfl ?_
      refine p_iconst dX11_told_31 (by decide) ?_
      refine p_icmp_ne (tgt := 42) (q := x2 ≠ 1) dX11_told_32 (by decide) Iff.rfl (fun hc => ?_) (fun hc => ?_)
      · replace hf := Eq.mp (if_pos hc) hf
        refine p_iload_n dX11_told_42 rfl 2 rfl ?_
        refine p_bipush dX11_told_43 (by decide) (by decide) ?_
        refine p_irem dX11_told_45 (by decide) ?_
        refine p_istore_n (ls' := [(3, vi (Int.tmod x2 10)), (0, vr 11 a0 0), (1, vi x1), (2, vi x2)]) dX11_told_46 rfl (by decide) rfl ?_
        replace hf := vb_e hf
        generalize (Int.tmod x2 10) = z3 at hf ⊢
        refine p_iload_n dX11_told_47 rfl 3 rfl ?_
        refine p_i2l dX11_told_48 ?_
        refine p_ldc2 (z := 10) dX11_told_49 tb_1124 (by decide) ?_
        refine p_ldc2 (z := 29) dX11_told_52 tb_1125 (by decide) ?_
        refine p_callSi dX11_told_55 M_X11_in (Or.inr rfl) [vl x2, vl 10, vl 29] (t_X11_in _ _ _ _ _ hf) ok_X11_in rfl tb_1079 tb_1080 rfl (Nat.le_of_ble_eq_true rfl) ⟨rfl, rfl⟩ ⟨by decide, by decide⟩ ⟨by decide, by decide⟩ (fun r4 h5 hf => ?_)
        refine p_if_eq (tgt := 70) (q := r4 = 0) dX11_told_58 (by decide) Iff.rfl (fun hc => ?_) (fun hc => ?_)
        · replace hf := Eq.mp (if_pos hc) hf
          refine p_sub (ls' := []) [] rfl ?_
          exact t_X11_told_70 h0   _ hf
        · replace hf := Eq.mp (if_neg hc) hf
          refine p_aload_n dX11_told_61 rfl 1 rfl ?_
          refine p_iload_n dX11_told_62 rfl 2 rfl ?_
          refine p_iload_n dX11_told_63 rfl 0 rfl ?_
          refine p_callVi dX11_told_64 M_X11_isTerm (Or.inr rfl) [vi x1, vi z3] (t_X11_isTerm _ _ _ _ _ h0 hf) ok_X11_isTerm rfl (c := 11) (by decide) h0 rfl tb_1126 ⟨tb_1128, ts_79⟩ rfl (Nat.le_of_ble_eq_true rfl) ⟨rfl, rfl⟩ ⟨by decide, by decide⟩ ⟨by decide, by decide⟩ (fun r6 h7 hf => ?_)
          refine p_if_ne (tgt := 73) (q := r6 ≠ 0) dX11_told_67 (by decide) Iff.rfl (fun hc => ?_) (fun hc => ?_)
          · replace hf := Eq.mp (if_pos hc) hf
            refine p_iload_n dX11_told_73 rfl 3 rfl ?_
            refine p_bipush dX11_told_74 (by decide) (by decide) ?_
            refine p_icmp_ge (tgt := 92) (q := x2 ≥ 20) dX11_told_76 (by decide) Iff.rfl (fun hc => ?_) (fun hc => ?_)
            · replace hf := Eq.mp (if_pos hc) hf
              refine p_aload_n dX11_told_92 rfl 1 rfl ?_
              refine p_lay (c := 11) (tq := 100) (n := 30) dX11_told_93 15 8 tb_908 (by decide) (by decide) h0 (by decide) (by decide) (fun _ => rfl) (vr 100 (a0 + 8) 30) rfl ?_
              refine p_iconst dX11_told_96 (by decide) ?_
              refine p_iload_n dX11_told_97 rfl 2 rfl ?_
              refine p_imul dX11_told_98 ?_
              refine p_iload_n dX11_told_99 rfl 0 rfl ?_
              refine p_iadd dX11_told_100 ?_
              obtain ⟨c8, hf⟩ := hf
              refine p_iald dX11_told_101 (nnk h0 (by decide)) c8 ?_
              refine p_sub (ls' := []) [] rfl ?_
              exact t_X11_told_102 h0  _ _ hf
            · replace hf := Eq.mp (if_neg hc) hf
              refine p_aload_n dX11_told_79 rfl 1 rfl ?_
              refine p_lay (c := 11) (tq := 100) (n := 30) dX11_told_80 14 7 tb_907 (by decide) (by decide) h0 (by decide) (by decide) (fun _ => rfl) (vr 100 (a0 + 7) 30) rfl ?_
              refine p_iconst dX11_told_83 (by decide) ?_
              refine p_iload_n dX11_told_84 rfl 2 rfl ?_
              refine p_imul dX11_told_85 ?_
              refine p_iload_n dX11_told_86 rfl 0 rfl ?_
              refine p_iadd dX11_told_87 ?_
              obtain ⟨c9, hf⟩ := hf
              refine p_iald dX11_told_88 (nnk h0 (by decide)) c9 ?_
              refine p_goto (tgt := 102) dX11_told_89 (by decide) ?_
              refine p_sub (ls' := []) [] rfl ?_
              exact t_X11_told_102 h0  _ _ hf
          · replace hf := Eq.mp (if_neg hc) hf
            refine p_sub (ls' := []) [] rfl ?_
            exact t_X11_told_70 h0   _ hf
      · replace hf := Eq.mp (if_neg hc) hf
        refine p_aload_n dX11_told_35 rfl 0 rfl ?_
        refine p_lay (c := 11) (tq := 100) (n := 6) dX11_told_36 13 6 tb_906 (by decide) (by decide) h0 (by decide) (by decide) (fun _ => rfl) (vr 100 (a0 + 6) 6) rfl ?_
        refine p_iload_n dX11_told_39 rfl 1 rfl ?_
        obtain ⟨c10, hf⟩ := hf
        refine p_iald dX11_told_40 (nnk h0 (by decide)) c10 ?_
        exact p_iret dX11_told_41 rfl (by decide) (by decide) (fun _ h => absurd h List.not_mem_nil) hf
    · replace hf := Eq.mp (if_neg hc) hf
      refine p_aload_n dX11_told_23 rfl 0 rfl ?_
      refine p_lay (c := 11) (tq := 100) (n := 6) dX11_told_24 12 5 tb_905 (by decide) (by decide) h0 (by decide) (by decide) (fun _ => rfl) (vr 100 (a0 + 5) 6) rfl ?_
      refine p_iload_n dX11_told_27 rfl 1 rfl ?_
      obtain ⟨c11, hf⟩ := hf
      refine p_iald dX11_told_28 (nnk h0 (by decide)) c11 ?_
      exact p_iret dX11_told_29 rfl (by decide) (by decide) (fun _ h => absurd h List.not_mem_nil) hf
  · replace hf := Eq.mp (if_neg hc) hf
    refine p_ldc (z := (-2147483648)) dX11_told_16 tb_1123 (by decide) ?_
    exact p_iret dX11_told_18 rfl (by decide) (by decide) (fun _ h => absurd h List.not_mem_nil) hf
theorem ok_X11_told : mOK M_X11_told 2 := ⟨tb_1122, tb_9, by decide +kernel⟩
