abbrev M_L_law : MD := (yL_law, cL_law, 4, some .boolean)
abbrev rm_L_law : Room := room_1
def w_L_law_1144 (K : Int → Hh → Prop) (B : Int → Int → Int → Hh → Prop) (sb sn : Int) (sc : Int → Int) (v1 v2 v3 : Int) (h : Hh) : Prop := vb (w32 (v3 + 7)) fun z75 => B v1 v2 z75 h
set_option maxRecDepth 100000 in
set_option maxHeartbeats 40000000 in
theorem t_L_law_1144 {G : Gx} {n0 : Int} {K : Int → Hh → Prop} {B : Int → Int → Int → Hh → Prop} {sb sn : Int} {sc : Int → Int} (h0 : sc = scr G) {c0 sq0 : Nat} (hc0 : c0 + 20 ≤ 600000 ∧ sq0 + 600 ≤ 7302250) (hB : ∀ (v1 v2 v3 : Int) (h : Hh), B v1 v2 v3 h → PW G M_L_law rm_L_law 600000 7302250 [] n0 K 18 [(0, vr 200 sb sn), (1, vr 10 v1 0), (2, vr 11 v2 0), (3, vi v3)] [] [] (c0 + 20) (sq0 + 600) h)  (v1 v2 v3 : Int) (h : Hh) (hf : w_L_law_1144 K B sb sn sc v1 v2 v3 h) : PW G M_L_law rm_L_law 600000 7302250 [] n0 K 1144 [(0, vr 200 sb sn), (1, vr 10 v1 0), (2, vr 11 v2 0), (3, vi v3)] [] [] (c0 + 20) (sq0 + 600) h := by
  unfold w_L_law_1144 at hf
  refine p_iinc (ls' := [(3, vi (w32 (v3 + 7))), (0, vr 200 sb sn), (1, vr 10 v1 0), (2, vr 11 v2 0)]) dL_law_1144 3 rfl (by decide) rfl ?_
  replace hf := vb_e hf
  generalize w32 (v3 + 7) = z75 at hf ⊢
  refine p_goto (tgt := 18) dL_law_1147 (by decide) ?_
  refine p_sub (ls' := [(0, vr 200 sb sn), (1, vr 10 v1 0), (2, vr 11 v2 0), (3, vi z75)]) [1, 2, 3, 0] rfl ?_
  exact hB _ _ _ _ hf
def w_L_law_618 (K : Int → Hh → Prop) (B : Int → Int → Int → Hh → Prop) (sb sn : Int) (sc : Int → Int) (v1 v2 v3 s0 s1 s2 s3 : Int) (h : Hh) : Prop := 0 ≤ s2 ∧ (w_X11_span s2 s1 s0 h (fun r167 h168 => if s3 = r167 then (w_L_law_1144 K B sb sn sc v1 v2 v3 h168) else (K 0 h168)))
set_option maxRecDepth 100000 in
set_option maxHeartbeats 40000000 in
theorem t_L_law_618 {G : Gx} {n0 : Int} {K : Int → Hh → Prop} {B : Int → Int → Int → Hh → Prop} {sb sn : Int} {sc : Int → Int} (h0 : sc = scr G) {c0 sq0 : Nat} (hc0 : c0 + 20 ≤ 600000 ∧ sq0 + 600 ≤ 7302250) (hB : ∀ (v1 v2 v3 : Int) (h : Hh), B v1 v2 v3 h → PW G M_L_law rm_L_law 600000 7302250 [] n0 K 18 [(0, vr 200 sb sn), (1, vr 10 v1 0), (2, vr 11 v2 0), (3, vi v3)] [] [] (c0 + 20) (sq0 + 600) h)  (v1 v2 v3 s0 s1 s2 s3 : Int) (h : Hh) (hf : w_L_law_618 K B sb sn sc v1 v2 v3 s0 s1 s2 s3 h) : PW G M_L_law rm_L_law 600000 7302250 [] n0 K 618 [(0, vr 200 sb sn), (1, vr 10 v1 0), (2, vr 11 v2 0), (3, vi v3)] [vi s0, vi s1, vr 11 s2 0, vi s3] [] c0 sq0 h := by
  unfold w_L_law_618 at hf
  obtain ⟨c166, hf⟩ := hf
  refine p_callVi dL_law_618 M_X11_span (Or.inl rfl) [vi s1, vi s0] (t_X11_span _ _ _ _ _ c166 hf) ok_X11_span rfl (c := 11) (by decide) c166 rfl tb_1232 ⟨tb_1233, tb_1234⟩ rfl (Nat.le_of_ble_eq_true rfl) ⟨rfl, rfl⟩ ⟨by decide, by decide⟩ ⟨by show _ ≤ 600000; omega, by show _ ≤ 7302250; omega⟩ (fun r167 h168 hf => ?_)
  refine p_icmp_eq (tgt := 1144) (q := s3 = r167) dL_law_621 (by decide) Iff.rfl (fun hc => ?_) (fun hc => ?_)
  · replace hf := Eq.mp (if_pos hc) hf
    refine p_widen (cells' := c0 + 20) (slots' := sq0 + 600) (by omega) (by omega) ?_
    exact t_L_law_1144 h0 hc0 hB _ _ _ _ hf
  · replace hf := Eq.mp (if_neg hc) hf
    refine p_iconst dL_law_624 (by decide) ?_
    exact p_zret dL_law_625 rfl (by omega) (by omega) (fun _ h => absurd h List.not_mem_nil) (Or.inl rfl) hf
def w_L_law_596 (K : Int → Hh → Prop) (B : Int → Int → Int → Hh → Prop) (sb sn : Int) (sc : Int → Int) (v1 v2 v3 s0 s1 s2 : Int) (h : Hh) : Prop := 0 ≤ s2 ∧ (w_X10_span s2 s1 s0 h (fun r162 h163 => ((0 : Int) ≤ w32 (v3 + 1) ∧ (w32 (v3 + 1) : Int) < sn) ∧ (((0 : Int) ≤ w32 (v3 + 2) ∧ (w32 (v3 + 2) : Int) < sn) ∧ (if sc (w32 (v3 + 2)) = 0 then (w_L_law_618 K B sb sn sc v1 v2 v3 0 (sc (w32 (v3 + 1))) v2 r162 h163) else (w_L_law_618 K B sb sn sc v1 v2 v3 1 (sc (w32 (v3 + 1))) v2 r162 h163)))))
set_option maxRecDepth 100000 in
set_option maxHeartbeats 40000000 in
theorem t_L_law_596 {G : Gx} {n0 : Int} {K : Int → Hh → Prop} {B : Int → Int → Int → Hh → Prop} {sb sn : Int} {sc : Int → Int} (h0 : sc = scr G) {c0 sq0 : Nat} (hc0 : c0 + 20 ≤ 600000 ∧ sq0 + 600 ≤ 7302250) (hB : ∀ (v1 v2 v3 : Int) (h : Hh), B v1 v2 v3 h → PW G M_L_law rm_L_law 600000 7302250 [] n0 K 18 [(0, vr 200 sb sn), (1, vr 10 v1 0), (2, vr 11 v2 0), (3, vi v3)] [] [] (c0 + 20) (sq0 + 600) h)  (v1 v2 v3 s0 s1 s2 : Int) (h : Hh) (hf : w_L_law_596 K B sb sn sc v1 v2 v3 s0 s1 s2 h) : PW G M_L_law rm_L_law 600000 7302250 [] n0 K 596 [(0, vr 200 sb sn), (1, vr 10 v1 0), (2, vr 11 v2 0), (3, vi v3)] [vi s0, vi s1, vr 10 s2 0] [] c0 sq0 h := by
  unfold w_L_law_596 at hf
  obtain ⟨c161, hf⟩ := hf
  refine p_callVi dL_law_596 M_X10_span (Or.inl rfl) [vi s1, vi s0] (t_X10_span _ _ _ _ _ c161 hf) ok_X10_span rfl (c := 10) (by decide) c161 rfl tb_657 ⟨tb_658, tb_659⟩ rfl (Nat.le_of_ble_eq_true rfl) ⟨rfl, rfl⟩ ⟨by decide, by decide⟩ ⟨by show _ ≤ 600000; omega, by show _ ≤ 7302250; omega⟩ (fun r162 h163 hf => ?_)
  refine p_aload_n dL_law_599 rfl 2 rfl ?_
  refine p_aload_n dL_law_600 rfl 0 rfl ?_
  refine p_iload_n dL_law_601 rfl 3 rfl ?_
  refine p_iconst dL_law_602 (by decide) ?_
  refine p_iadd dL_law_603 ?_
  obtain ⟨c164, hf⟩ := hf
  refine p_sld (sc := sc) dL_law_604 rfl h0 c164 ?_
  refine p_aload_n dL_law_605 rfl 0 rfl ?_
  refine p_iload_n dL_law_606 rfl 3 rfl ?_
  refine p_iconst dL_law_607 (by decide) ?_
  refine p_iadd dL_law_608 ?_
  obtain ⟨c165, hf⟩ := hf
  refine p_sld (sc := sc) dL_law_609 rfl h0 c165 ?_
  refine p_if_eq (tgt := 617) (q := sc (w32 (v3 + 2)) = 0) dL_law_610 (by decide) Iff.rfl (fun hc => ?_) (fun hc => ?_)
  · replace hf := Eq.mp (if_pos hc) hf
    refine p_iconst dL_law_617 (by decide) ?_
    exact t_L_law_618 h0 hc0 hB _ _ _ _ _ _ _ _ hf
  · replace hf := Eq.mp (if_neg hc) hf
    refine p_iconst dL_law_613 (by decide) ?_
    refine p_goto (tgt := 618) dL_law_614 (by decide) ?_
    exact t_L_law_618 h0 hc0 hB _ _ _ _ _ _ _ _ hf
def w_L_law_895 (K : Int → Hh → Prop) (B : Int → Int → Int → Hh → Prop) (sb sn : Int) (sc : Int → Int) (v1 v2 v3 s0 s1 s2 s3 s4 : Int) (h : Hh) : Prop := 0 ≤ s3 ∧ (w_X11_swelled s3 s2 s1 s0 h (fun r229 h230 => if s4 = r229 then (w_L_law_1144 K B sb sn sc v1 v2 v3 h230) else (K 0 h230)))
set_option maxRecDepth 100000 in
set_option maxHeartbeats 40000000 in
theorem t_L_law_895 {G : Gx} {n0 : Int} {K : Int → Hh → Prop} {B : Int → Int → Int → Hh → Prop} {sb sn : Int} {sc : Int → Int} (h0 : sc = scr G) {c0 sq0 : Nat} (hc0 : c0 + 20 ≤ 600000 ∧ sq0 + 600 ≤ 7302250) (hB : ∀ (v1 v2 v3 : Int) (h : Hh), B v1 v2 v3 h → PW G M_L_law rm_L_law 600000 7302250 [] n0 K 18 [(0, vr 200 sb sn), (1, vr 10 v1 0), (2, vr 11 v2 0), (3, vi v3)] [] [] (c0 + 20) (sq0 + 600) h)  (v1 v2 v3 s0 s1 s2 s3 s4 : Int) (h : Hh) (hf : w_L_law_895 K B sb sn sc v1 v2 v3 s0 s1 s2 s3 s4 h) : PW G M_L_law rm_L_law 600000 7302250 [] n0 K 895 [(0, vr 200 sb sn), (1, vr 10 v1 0), (2, vr 11 v2 0), (3, vi v3)] [vi s0, vi s1, vi s2, vr 11 s3 0, vi s4] [] c0 sq0 h := by
  unfold w_L_law_895 at hf
  obtain ⟨c228, hf⟩ := hf
  refine p_callVi dL_law_895 M_X11_swelled (Or.inl rfl) [vi s2, vi s1, vi s0] (t_X11_swelled _ _ _ _ _ _ c228 hf) ok_X11_swelled rfl (c := 11) (by decide) c228 rfl tb_1176 ⟨tb_1177, tb_1178⟩ rfl (Nat.le_of_ble_eq_true rfl) ⟨rfl, rfl⟩ ⟨by decide, by decide⟩ ⟨by show _ ≤ 600000; omega, by show _ ≤ 7302250; omega⟩ (fun r229 h230 hf => ?_)
  refine p_icmp_eq (tgt := 1144) (q := s4 = r229) dL_law_898 (by decide) Iff.rfl (fun hc => ?_) (fun hc => ?_)
  · replace hf := Eq.mp (if_pos hc) hf
    refine p_widen (cells' := c0 + 20) (slots' := sq0 + 600) (by omega) (by omega) ?_
    exact t_L_law_1144 h0 hc0 hB _ _ _ _ hf
  · replace hf := Eq.mp (if_neg hc) hf
    refine p_iconst dL_law_901 (by decide) ?_
    exact p_zret dL_law_902 rfl (by omega) (by omega) (fun _ h => absurd h List.not_mem_nil) (Or.inl rfl) hf
def w_L_law_868 (K : Int → Hh → Prop) (B : Int → Int → Int → Hh → Prop) (sb sn : Int) (sc : Int → Int) (v1 v2 v3 s0 s1 s2 s3 : Int) (h : Hh) : Prop := 0 ≤ s3 ∧ (w_X10_swelled s3 s2 s1 s0 h (fun r223 h224 => ((0 : Int) ≤ w32 (v3 + 1) ∧ (w32 (v3 + 1) : Int) < sn) ∧ (((0 : Int) ≤ w32 (v3 + 2) ∧ (w32 (v3 + 2) : Int) < sn) ∧ (((0 : Int) ≤ w32 (v3 + 3) ∧ (w32 (v3 + 3) : Int) < sn) ∧ (if sc (w32 (v3 + 3)) = 0 then (w_L_law_895 K B sb sn sc v1 v2 v3 0 (sc (w32 (v3 + 2))) (sc (w32 (v3 + 1))) v2 r223 h224) else (w_L_law_895 K B sb sn sc v1 v2 v3 1 (sc (w32 (v3 + 2))) (sc (w32 (v3 + 1))) v2 r223 h224))))))
set_option maxRecDepth 100000 in
set_option maxHeartbeats 40000000 in
theorem t_L_law_868 {G : Gx} {n0 : Int} {K : Int → Hh → Prop} {B : Int → Int → Int → Hh → Prop} {sb sn : Int} {sc : Int → Int} (h0 : sc = scr G) {c0 sq0 : Nat} (hc0 : c0 + 20 ≤ 600000 ∧ sq0 + 600 ≤ 7302250) (hB : ∀ (v1 v2 v3 : Int) (h : Hh), B v1 v2 v3 h → PW G M_L_law rm_L_law 600000 7302250 [] n0 K 18 [(0, vr 200 sb sn), (1, vr 10 v1 0), (2, vr 11 v2 0), (3, vi v3)] [] [] (c0 + 20) (sq0 + 600) h)  (v1 v2 v3 s0 s1 s2 s3 : Int) (h : Hh) (hf : w_L_law_868 K B sb sn sc v1 v2 v3 s0 s1 s2 s3 h) : PW G M_L_law rm_L_law 600000 7302250 [] n0 K 868 [(0, vr 200 sb sn), (1, vr 10 v1 0), (2, vr 11 v2 0), (3, vi v3)] [vi s0, vi s1, vi s2, vr 10 s3 0] [] c0 sq0 h := by
  unfold w_L_law_868 at hf
  obtain ⟨c222, hf⟩ := hf
  refine p_callVi dL_law_868 M_X10_swelled (Or.inl rfl) [vi s2, vi s1, vi s0] (t_X10_swelled _ _ _ _ _ _ c222 hf) ok_X10_swelled rfl (c := 10) (by decide) c222 rfl tb_755 ⟨tb_756, tb_757⟩ rfl (Nat.le_of_ble_eq_true rfl) ⟨rfl, rfl⟩ ⟨by decide, by decide⟩ ⟨by show _ ≤ 600000; omega, by show _ ≤ 7302250; omega⟩ (fun r223 h224 hf => ?_)
  refine p_aload_n dL_law_871 rfl 2 rfl ?_
  refine p_aload_n dL_law_872 rfl 0 rfl ?_
  refine p_iload_n dL_law_873 rfl 3 rfl ?_
  refine p_iconst dL_law_874 (by decide) ?_
  refine p_iadd dL_law_875 ?_
  obtain ⟨c225, hf⟩ := hf
  refine p_sld (sc := sc) dL_law_876 rfl h0 c225 ?_
  refine p_aload_n dL_law_877 rfl 0 rfl ?_
  refine p_iload_n dL_law_878 rfl 3 rfl ?_
  refine p_iconst dL_law_879 (by decide) ?_
  refine p_iadd dL_law_880 ?_
  obtain ⟨c226, hf⟩ := hf
  refine p_sld (sc := sc) dL_law_881 rfl h0 c226 ?_
  refine p_aload_n dL_law_882 rfl 0 rfl ?_
  refine p_iload_n dL_law_883 rfl 3 rfl ?_
  refine p_iconst dL_law_884 (by decide) ?_
  refine p_iadd dL_law_885 ?_
  obtain ⟨c227, hf⟩ := hf
  refine p_sld (sc := sc) dL_law_886 rfl h0 c227 ?_
  refine p_if_eq (tgt := 894) (q := sc (w32 (v3 + 3)) = 0) dL_law_887 (by decide) Iff.rfl (fun hc => ?_) (fun hc => ?_)
  · replace hf := Eq.mp (if_pos hc) hf
    refine p_iconst dL_law_894 (by decide) ?_
    exact t_L_law_895 h0 hc0 hB _ _ _ _ _ _ _ _ _ hf
  · replace hf := Eq.mp (if_neg hc) hf
    refine p_iconst dL_law_890 (by decide) ?_
    refine p_goto (tgt := 895) dL_law_891 (by decide) ?_
    exact t_L_law_895 h0 hc0 hB _ _ _ _ _ _ _ _ _ hf
def w_L_law_18 (K : Int → Hh → Prop) (sb sn : Int) (sc : Int → Int) : Nat → Int → Int → Int → Hh → Prop
  | 0, _, _, _, _ => False
  | n + 1, v1, v2, v3, h => (sn < 65536) ∧ (if v3 > w32 (sn - 7) then (K 1 h) else (((0 : Int) ≤ v3 ∧ (v3 : Int) < sn) ∧ (if (i32 (sc v3) &&& i32 31).toInt = 0 then (((0 : Int) ≤ w32 (v3 + 1) ∧ (w32 (v3 + 1) : Int) < sn) ∧ (((0 : Int) ≤ w32 (v3 + 2) ∧ (w32 (v3 + 2) : Int) < sn) ∧ (((0 : Int) ≤ w32 (v3 + 3) ∧ (w32 (v3 + 3) : Int) < sn) ∧ (((0 : Int) ≤ w32 (v3 + 4) ∧ (w32 (v3 + 4) : Int) < sn) ∧ (((0 : Int) ≤ w32 (v3 + 5) ∧ (w32 (v3 + 5) : Int) < sn) ∧ (0 ≤ v1 ∧ (w_X10_feed v1 (sc (w32 (v3 + 1))) (sc (w32 (v3 + 2))) (sc (w32 (v3 + 3))) (sc (w32 (v3 + 4))) (sc (w32 (v3 + 5))) h (fun r70 h71 => 0 ≤ v2 ∧ (w_X11_feed v2 (sc (w32 (v3 + 1))) (sc (w32 (v3 + 2))) (sc (w32 (v3 + 3))) (sc (w32 (v3 + 4))) (sc (w32 (v3 + 5))) h71 (fun r73 h74 => if r70 = r73 then (w_L_law_1144 K (w_L_law_18 K  sb sn sc n) sb sn sc v1 v2 v3 h74) else (K 0 h74))))))))))) else (if (i32 (sc v3) &&& i32 31).toInt = 1 then (((0 : Int) ≤ w32 (v3 + 1) ∧ (w32 (v3 + 1) : Int) < sn) ∧ (0 ≤ v1 ∧ (w_X10_end v1 (sc (w32 (v3 + 1))) h (fun r78 h79 => 0 ≤ v2 ∧ (w_X11_end v2 (sc (w32 (v3 + 1))) h79 (fun r81 h82 => if r78 = r81 then (w_L_law_1144 K (w_L_law_18 K  sb sn sc n) sb sn sc v1 v2 v3 h82) else (K 0 h82))))))) else (if (i32 (sc v3) &&& i32 31).toInt = 2 then (0 ≤ v1 ∧ (w_X10_fault v1 h (fun r84 h85 => 0 ≤ v2 ∧ (w_X11_fault v2 h85 (fun r87 h88 => if r84 = r87 then (w_L_law_1144 K (w_L_law_18 K  sb sn sc n) sb sn sc v1 v2 v3 h88) else (K 0 h88)))))) else (if (i32 (sc v3) &&& i32 31).toInt = 3 then (0 ≤ v1 ∧ (w_X10_rule v1 h (fun r90 h91 => 0 ≤ v2 ∧ (w_X11_rule v2 h91 (fun r93 h94 => if r90 = r93 then (w_L_law_1144 K (w_L_law_18 K  sb sn sc n) sb sn sc v1 v2 v3 h94) else (K 0 h94)))))) else (if (i32 (sc v3) &&& i32 31).toInt = 4 then (((0 : Int) ≤ w32 (v3 + 1) ∧ (w32 (v3 + 1) : Int) < sn) ∧ (((0 : Int) ≤ w32 (v3 + 2) ∧ (w32 (v3 + 2) : Int) < sn) ∧ (0 ≤ v1 ∧ (w_X10_told v1 (sc (w32 (v3 + 1))) (sc (w32 (v3 + 2))) h (fun r98 h99 => 0 ≤ v2 ∧ (w_X11_told v2 (sc (w32 (v3 + 1))) (sc (w32 (v3 + 2))) h99 (fun r101 h102 => if r98 = r101 then (w_L_law_1144 K (w_L_law_18 K  sb sn sc n) sb sn sc v1 v2 v3 h102) else (K 0 h102)))))))) else (if (i32 (sc v3) &&& i32 31).toInt = 5 then (((0 : Int) ≤ w32 (v3 + 1) ∧ (w32 (v3 + 1) : Int) < sn) ∧ (((0 : Int) ≤ w32 (v3 + 2) ∧ (w32 (v3 + 2) : Int) < sn) ∧ (((0 : Int) ≤ w32 (v3 + 3) ∧ (w32 (v3 + 3) : Int) < sn) ∧ (((0 : Int) ≤ w32 (v3 + 4) ∧ (w32 (v3 + 4) : Int) < sn) ∧ (((0 : Int) ≤ w32 (v3 + 5) ∧ (w32 (v3 + 5) : Int) < sn) ∧ (0 ≤ v1 ∧ (w_X10_range v1 (sc (w32 (v3 + 1))) (sc (w32 (v3 + 2))) (sc (w32 (v3 + 3))) (sc (w32 (v3 + 4))) (sc (w32 (v3 + 5))) h (fun r109 h110 => 0 ≤ v2 ∧ (w_X11_range v2 (sc (w32 (v3 + 1))) (sc (w32 (v3 + 2))) (sc (w32 (v3 + 3))) (sc (w32 (v3 + 4))) (sc (w32 (v3 + 5))) h110 (fun r112 h113 => if r109 = r112 then (w_L_law_1144 K (w_L_law_18 K  sb sn sc n) sb sn sc v1 v2 v3 h113) else (K 0 h113))))))))))) else (if (i32 (sc v3) &&& i32 31).toInt = 6 then (((0 : Int) ≤ w32 (v3 + 1) ∧ (w32 (v3 + 1) : Int) < sn) ∧ (((0 : Int) ≤ w32 (v3 + 2) ∧ (w32 (v3 + 2) : Int) < sn) ∧ (((0 : Int) ≤ w32 (v3 + 3) ∧ (w32 (v3 + 3) : Int) < sn) ∧ (0 ≤ v1 ∧ (w_X10_mark v1 (sc (w32 (v3 + 1))) (sc (w32 (v3 + 2))) (sc (w32 (v3 + 3))) h (fun r118 h119 => 0 ≤ v2 ∧ (w_X11_mark v2 (sc (w32 (v3 + 1))) (sc (w32 (v3 + 2))) (sc (w32 (v3 + 3))) h119 (fun r121 h122 => if r118 = r121 then (w_L_law_1144 K (w_L_law_18 K  sb sn sc n) sb sn sc v1 v2 v3 h122) else (K 0 h122))))))))) else (if (i32 (sc v3) &&& i32 31).toInt = 7 then (((0 : Int) ≤ w32 (v3 + 1) ∧ (w32 (v3 + 1) : Int) < sn) ∧ (((0 : Int) ≤ w32 (v3 + 2) ∧ (w32 (v3 + 2) : Int) < sn) ∧ (((0 : Int) ≤ w32 (v3 + 3) ∧ (w32 (v3 + 3) : Int) < sn) ∧ (((0 : Int) ≤ w32 (v3 + 4) ∧ (w32 (v3 + 4) : Int) < sn) ∧ (((0 : Int) ≤ w32 (v3 + 5) ∧ (w32 (v3 + 5) : Int) < sn) ∧ (((0 : Int) ≤ w32 (v3 + 6) ∧ (w32 (v3 + 6) : Int) < sn) ∧ (0 ≤ v1 ∧ (w_X10_chart v1 (sc (w32 (v3 + 1))) (sc (w32 (v3 + 2))) (sc (w32 (v3 + 3))) (sc (w32 (v3 + 4))) (sc (w32 (v3 + 5))) (sc (w32 (v3 + 6))) h (fun r130 h131 => 0 ≤ v2 ∧ (w_X11_chart v2 (sc (w32 (v3 + 1))) (sc (w32 (v3 + 2))) (sc (w32 (v3 + 3))) (sc (w32 (v3 + 4))) (sc (w32 (v3 + 5))) (sc (w32 (v3 + 6))) h131 (fun r133 h134 => if r130 = r133 then (w_L_law_1144 K (w_L_law_18 K  sb sn sc n) sb sn sc v1 v2 v3 h134) else (K 0 h134)))))))))))) else (if (i32 (sc v3) &&& i32 31).toInt = 8 then (((0 : Int) ≤ w32 (v3 + 1) ∧ (w32 (v3 + 1) : Int) < sn) ∧ (((0 : Int) ≤ w32 (v3 + 2) ∧ (w32 (v3 + 2) : Int) < sn) ∧ (0 ≤ v1 ∧ (w_X10_reading v1 (sc (w32 (v3 + 1))) (sc (w32 (v3 + 2))) h (fun r138 h139 => 0 ≤ v2 ∧ (w_X11_reading v2 (sc (w32 (v3 + 1))) (sc (w32 (v3 + 2))) h139 (fun r141 h142 => if r138 = r141 then (w_L_law_1144 K (w_L_law_18 K  sb sn sc n) sb sn sc v1 v2 v3 h142) else (K 0 h142)))))))) else (if (i32 (sc v3) &&& i32 31).toInt = 9 then (((0 : Int) ≤ w32 (v3 + 1) ∧ (w32 (v3 + 1) : Int) < sn) ∧ (((0 : Int) ≤ w32 (v3 + 2) ∧ (w32 (v3 + 2) : Int) < sn) ∧ (0 ≤ v1 ∧ (w_X10_read v1 (sc (w32 (v3 + 1))) (sc (w32 (v3 + 2))) h (fun r146 h147 => 0 ≤ v2 ∧ (w_X11_read v2 (sc (w32 (v3 + 1))) (sc (w32 (v3 + 2))) h147 (fun r149 h150 => if r146 = r149 then (w_L_law_1144 K (w_L_law_18 K  sb sn sc n) sb sn sc v1 v2 v3 h150) else (K 0 h150)))))))) else (if (i32 (sc v3) &&& i32 31).toInt = 10 then (((0 : Int) ≤ w32 (v3 + 1) ∧ (w32 (v3 + 1) : Int) < sn) ∧ (((0 : Int) ≤ w32 (v3 + 2) ∧ (w32 (v3 + 2) : Int) < sn) ∧ (0 ≤ v1 ∧ (w_X10_lead v1 (sc (w32 (v3 + 1))) (sc (w32 (v3 + 2))) h (fun r154 h155 => 0 ≤ v2 ∧ (w_X11_lead v2 (sc (w32 (v3 + 1))) (sc (w32 (v3 + 2))) h155 (fun r157 h158 => if r154 = r157 then (w_L_law_1144 K (w_L_law_18 K  sb sn sc n) sb sn sc v1 v2 v3 h158) else (K 0 h158)))))))) else (if (i32 (sc v3) &&& i32 31).toInt = 11 then (((0 : Int) ≤ w32 (v3 + 1) ∧ (w32 (v3 + 1) : Int) < sn) ∧ (((0 : Int) ≤ w32 (v3 + 2) ∧ (w32 (v3 + 2) : Int) < sn) ∧ (if sc (w32 (v3 + 2)) = 0 then (w_L_law_596 K (w_L_law_18 K  sb sn sc n) sb sn sc v1 v2 v3 0 (sc (w32 (v3 + 1))) v1 h) else (w_L_law_596 K (w_L_law_18 K  sb sn sc n) sb sn sc v1 v2 v3 1 (sc (w32 (v3 + 1))) v1 h)))) else (if (i32 (sc v3) &&& i32 31).toInt = 12 then (((0 : Int) ≤ w32 (v3 + 1) ∧ (w32 (v3 + 1) : Int) < sn) ∧ (((0 : Int) ≤ w32 (v3 + 2) ∧ (w32 (v3 + 2) : Int) < sn) ∧ (((0 : Int) ≤ w32 (v3 + 3) ∧ (w32 (v3 + 3) : Int) < sn) ∧ (0 ≤ v1 ∧ (w_X10_page v1 (sc (w32 (v3 + 1))) (sc (w32 (v3 + 2))) (sc (w32 (v3 + 3))) h (fun r173 h174 => 0 ≤ v2 ∧ (w_X11_page v2 (sc (w32 (v3 + 1))) (sc (w32 (v3 + 2))) (sc (w32 (v3 + 3))) h174 (fun r176 h177 => if r173 = r176 then (w_L_law_1144 K (w_L_law_18 K  sb sn sc n) sb sn sc v1 v2 v3 h177) else (K 0 h177))))))))) else (if (i32 (sc v3) &&& i32 31).toInt = 13 then (((0 : Int) ≤ w32 (v3 + 1) ∧ (w32 (v3 + 1) : Int) < sn) ∧ (((0 : Int) ≤ w32 (v3 + 2) ∧ (w32 (v3 + 2) : Int) < sn) ∧ (((0 : Int) ≤ w32 (v3 + 3) ∧ (w32 (v3 + 3) : Int) < sn) ∧ (0 ≤ v1 ∧ (w_X10_sharpest v1 (sc (w32 (v3 + 1))) (sc (w32 (v3 + 2))) (sc (w32 (v3 + 3))) h (fun r182 h183 => 0 ≤ v2 ∧ (w_X11_sharpest v2 (sc (w32 (v3 + 1))) (sc (w32 (v3 + 2))) (sc (w32 (v3 + 3))) h183 (fun r185 h186 => if r182 = r185 then (w_L_law_1144 K (w_L_law_18 K  sb sn sc n) sb sn sc v1 v2 v3 h186) else (K 0 h186))))))))) else (if (i32 (sc v3) &&& i32 31).toInt = 14 then (((0 : Int) ≤ w32 (v3 + 1) ∧ (w32 (v3 + 1) : Int) < sn) ∧ (0 ≤ v1 ∧ (w_X10_list v1 (sc (w32 (v3 + 1))) h (fun r189 h190 => 0 ≤ v2 ∧ (w_X11_list v2 (sc (w32 (v3 + 1))) h190 (fun r192 h193 => if r189 = r192 then (w_L_law_1144 K (w_L_law_18 K  sb sn sc n) sb sn sc v1 v2 v3 h193) else (K 0 h193))))))) else (if (i32 (sc v3) &&& i32 31).toInt = 15 then (0 ≤ v1 ∧ (w_X10_clear v1 h (fun r195 h196 => 0 ≤ v2 ∧ (w_X11_clear v2 h196 (fun r198 h199 => if r195 = r198 then (w_L_law_1144 K (w_L_law_18 K  sb sn sc n) sb sn sc v1 v2 v3 h199) else (K 0 h199)))))) else (if (i32 (sc v3) &&& i32 31).toInt = 16 then (((0 : Int) ≤ w32 (v3 + 1) ∧ (w32 (v3 + 1) : Int) < sn) ∧ (((0 : Int) ≤ w32 (v3 + 2) ∧ (w32 (v3 + 2) : Int) < sn) ∧ (((0 : Int) ≤ w32 (v3 + 3) ∧ (w32 (v3 + 3) : Int) < sn) ∧ (0 ≤ v1 ∧ (w_X10_finest v1 (sc (w32 (v3 + 1))) (sc (w32 (v3 + 2))) (sc (w32 (v3 + 3))) h (fun r204 h205 => 0 ≤ v2 ∧ (w_X11_finest v2 (sc (w32 (v3 + 1))) (sc (w32 (v3 + 2))) (sc (w32 (v3 + 3))) h205 (fun r207 h208 => if r204 = r207 then (w_L_law_1144 K (w_L_law_18 K  sb sn sc n) sb sn sc v1 v2 v3 h208) else (K 0 h208))))))))) else (if (i32 (sc v3) &&& i32 31).toInt = 17 then (((0 : Int) ≤ w32 (v3 + 1) ∧ (w32 (v3 + 1) : Int) < sn) ∧ (((0 : Int) ≤ w32 (v3 + 2) ∧ (w32 (v3 + 2) : Int) < sn) ∧ (((0 : Int) ≤ w32 (v3 + 3) ∧ (w32 (v3 + 3) : Int) < sn) ∧ (((0 : Int) ≤ w32 (v3 + 4) ∧ (w32 (v3 + 4) : Int) < sn) ∧ (0 ≤ v1 ∧ (w_X10_paper v1 (sc (w32 (v3 + 1))) (sc (w32 (v3 + 2))) (sc (w32 (v3 + 3))) (sc (w32 (v3 + 4))) h (fun r214 h215 => 0 ≤ v2 ∧ (w_X11_paper v2 (sc (w32 (v3 + 1))) (sc (w32 (v3 + 2))) (sc (w32 (v3 + 3))) (sc (w32 (v3 + 4))) h215 (fun r217 h218 => if r214 = r217 then (w_L_law_1144 K (w_L_law_18 K  sb sn sc n) sb sn sc v1 v2 v3 h218) else (K 0 h218)))))))))) else (if (i32 (sc v3) &&& i32 31).toInt = 18 then (((0 : Int) ≤ w32 (v3 + 1) ∧ (w32 (v3 + 1) : Int) < sn) ∧ (((0 : Int) ≤ w32 (v3 + 2) ∧ (w32 (v3 + 2) : Int) < sn) ∧ (((0 : Int) ≤ w32 (v3 + 3) ∧ (w32 (v3 + 3) : Int) < sn) ∧ (if sc (w32 (v3 + 3)) = 0 then (w_L_law_868 K (w_L_law_18 K  sb sn sc n) sb sn sc v1 v2 v3 0 (sc (w32 (v3 + 2))) (sc (w32 (v3 + 1))) v1 h) else (w_L_law_868 K (w_L_law_18 K  sb sn sc n) sb sn sc v1 v2 v3 1 (sc (w32 (v3 + 2))) (sc (w32 (v3 + 1))) v1 h))))) else (if (i32 (sc v3) &&& i32 31).toInt = 19 then (((0 : Int) ≤ w32 (v3 + 1) ∧ (w32 (v3 + 1) : Int) < sn) ∧ (0 ≤ v1 ∧ (w_X10_go v1 (sc (w32 (v3 + 1))) h (fun r233 h234 => 0 ≤ v2 ∧ (w_X11_go v2 (sc (w32 (v3 + 1))) h234 (fun r236 h237 => if r233 = r236 then (w_L_law_1144 K (w_L_law_18 K  sb sn sc n) sb sn sc v1 v2 v3 h237) else (K 0 h237))))))) else (if (i32 (sc v3) &&& i32 31).toInt = 20 then (((0 : Int) ≤ w32 (v3 + 1) ∧ (w32 (v3 + 1) : Int) < sn) ∧ (((0 : Int) ≤ w32 (v3 + 2) ∧ (w32 (v3 + 2) : Int) < sn) ∧ (((0 : Int) ≤ w32 (v3 + 3) ∧ (w32 (v3 + 3) : Int) < sn) ∧ (((0 : Int) ≤ w32 (v3 + 4) ∧ (w32 (v3 + 4) : Int) < sn) ∧ (0 ≤ v1 ∧ (w_X10_move v1 (sc (w32 (v3 + 1))) (sc (w32 (v3 + 2))) (sc (w32 (v3 + 3))) (sc (w32 (v3 + 4))) h (fun r243 h244 => 0 ≤ v2 ∧ (w_X11_move v2 (sc (w32 (v3 + 1))) (sc (w32 (v3 + 2))) (sc (w32 (v3 + 3))) (sc (w32 (v3 + 4))) h244 (fun r246 h247 => if r243 = r246 then (w_L_law_1144 K (w_L_law_18 K  sb sn sc n) sb sn sc v1 v2 v3 h247) else (K 0 h247)))))))))) else (if (i32 (sc v3) &&& i32 31).toInt = 21 then (((0 : Int) ≤ w32 (v3 + 1) ∧ (w32 (v3 + 1) : Int) < sn) ∧ (((0 : Int) ≤ w32 (v3 + 2) ∧ (w32 (v3 + 2) : Int) < sn) ∧ (0 ≤ v1 ∧ (w_X10_report v1 (sc (w32 (v3 + 1))) (sc (w32 (v3 + 2))) h (fun r251 h252 => 0 ≤ v2 ∧ (w_X11_report v2 (sc (w32 (v3 + 1))) (sc (w32 (v3 + 2))) h252 (fun r254 h255 => if r251 = r254 then (w_L_law_1144 K (w_L_law_18 K  sb sn sc n) sb sn sc v1 v2 v3 h255) else (K 0 h255)))))))) else (if (i32 (sc v3) &&& i32 31).toInt = 22 then (((0 : Int) ≤ w32 (v3 + 1) ∧ (w32 (v3 + 1) : Int) < sn) ∧ (((0 : Int) ≤ w32 (v3 + 2) ∧ (w32 (v3 + 2) : Int) < sn) ∧ (((0 : Int) ≤ w32 (v3 + 3) ∧ (w32 (v3 + 3) : Int) < sn) ∧ (0 ≤ v1 ∧ (w_X10_due v1 (sc (w32 (v3 + 1))) (sc (w32 (v3 + 2))) (sc (w32 (v3 + 3))) h (fun r260 h261 => 0 ≤ v2 ∧ (w_X11_due v2 (sc (w32 (v3 + 1))) (sc (w32 (v3 + 2))) (sc (w32 (v3 + 3))) h261 (fun r263 h264 => if r260 = r263 then (w_L_law_1144 K (w_L_law_18 K  sb sn sc n) sb sn sc v1 v2 v3 h264) else (K 0 h264))))))))) else (if (i32 (sc v3) &&& i32 31).toInt = 23 then (((0 : Int) ≤ w32 (v3 + 1) ∧ (w32 (v3 + 1) : Int) < sn) ∧ (0 ≤ v1 ∧ (w_X10_habit v1 (sc (w32 (v3 + 1))) h (fun r267 h268 => 0 ≤ v2 ∧ (w_X11_habit v2 (sc (w32 (v3 + 1))) h268 (fun r270 h271 => if r267 = r270 then (w_L_law_1144 K (w_L_law_18 K  sb sn sc n) sb sn sc v1 v2 v3 h271) else (K 0 h271))))))) else (if (i32 (sc v3) &&& i32 31).toInt = 24 then (((0 : Int) ≤ w32 (v3 + 1) ∧ (w32 (v3 + 1) : Int) < sn) ∧ (((0 : Int) ≤ w32 (v3 + 2) ∧ (w32 (v3 + 2) : Int) < sn) ∧ (((0 : Int) ≤ w32 (v3 + 3) ∧ (w32 (v3 + 3) : Int) < sn) ∧ (0 ≤ v1 ∧ (w_X10_suspects v1 (sc (w32 (v3 + 1))) (sc (w32 (v3 + 2))) (sc (w32 (v3 + 3))) h (fun r276 h277 => 0 ≤ v2 ∧ (w_X11_suspects v2 (sc (w32 (v3 + 1))) (sc (w32 (v3 + 2))) (sc (w32 (v3 + 3))) h277 (fun r279 h280 => if r276 = r279 then (w_L_law_1144 K (w_L_law_18 K  sb sn sc n) sb sn sc v1 v2 v3 h280) else (K 0 h280))))))))) else (if (i32 (sc v3) &&& i32 31).toInt = 25 then (((0 : Int) ≤ w32 (v3 + 1) ∧ (w32 (v3 + 1) : Int) < sn) ∧ (0 ≤ v1 ∧ (w_X10_count v1 (sc (w32 (v3 + 1))) h (fun r283 h284 => 0 ≤ v2 ∧ (w_X11_count v2 (sc (w32 (v3 + 1))) h284 (fun r286 h287 => if r283 = r286 then (w_L_law_1144 K (w_L_law_18 K  sb sn sc n) sb sn sc v1 v2 v3 h287) else (K 0 h287))))))) else (w_L_law_1144 K (w_L_law_18 K  sb sn sc n) sb sn sc v1 v2 v3 h)))))))))))))))))))))))))))))
set_option maxRecDepth 100000 in
set_option maxHeartbeats 40000000 in
theorem t_L_law_18 {G : Gx} {n0 : Int} {K : Int → Hh → Prop} {sb sn : Int} {sc : Int → Int} (h0 : sc = scr G) : ∀ (n : Nat), n ≤ NL → ∀ (v1 v2 v3 : Int) (h : Hh), w_L_law_18 K sb sn sc n v1 v2 v3 h → PW G M_L_law rm_L_law 600000 7302250 [] n0 K 18 [(0, vr 200 sb sn), (1, vr 10 v1 0), (2, vr 11 v2 0), (3, vi v3)] [] [] (cfl n) (sfl n) h := by
  intro n
  induction n with
  | zero =>
    intro _ v1 v2 v3 h hf
    rw [w_L_law_18] at hf
    exact hf.elim
  | succ n ih =>
    intro hn v1 v2 v3 h hf
    rw [w_L_law_18] at hf
    obtain ⟨c0, ec0⟩ : ∃ c, c = cfl (n + 1) := ⟨_, rfl⟩
    obtain ⟨sq0, es0⟩ : ∃ c, c = sfl (n + 1) := ⟨_, rfl⟩
    have hn2 : n + 1 ≤ 600 := hn
    have ec1 : c0 = 100 + (600 - (n + 1)) * 20 := ec0
    have es1 : sq0 = 8000 + (600 - (n + 1)) * 600 := es0
    have hc0 : c0 + 20 ≤ 600000 ∧ sq0 + 600 ≤ 7302250 := by omega
    have ih : ∀ (v1 v2 v3 : Int) (h : Hh), w_L_law_18 K sb sn sc n v1 v2 v3 h → PW G M_L_law rm_L_law 600000 7302250 [] n0 K 18 [(0, vr 200 sb sn), (1, vr 10 v1 0), (2, vr 11 v2 0), (3, vi v3)] [] [] (c0 + 20) (sq0 + 600) h := fun v1 v2 v3 h hf => p_widen (by show _ ≤ 100 + (600 - n) * 20; omega) (by show _ ≤ 8000 + (600 - n) * 600; omega) (ih (by omega) v1 v2 v3 h hf)
    rw [← ec0, ← es0]
    clear ec0 es0 ec1 es1 hn hn2
    refine p_iload_n dL_law_18 rfl 3 rfl ?_
    refine p_aload_n dL_law_19 rfl 0 rfl ?_
    obtain ⟨c62, hf⟩ := hf
    refine p_slen dL_law_20 rfl c62 ?_
    refine p_bipush dL_law_21 (by decide) (by decide) ?_
    refine p_isub dL_law_23 ?_
    refine p_icmp_gt (tgt := 1150) (q := v3 > w32 (sn - 7)) dL_law_24 (by decide) Iff.rfl (fun hc => ?_) (fun hc => ?_)
    · replace hf := Eq.mp (if_pos hc) hf
      refine p_iconst dL_law_1150 (by decide) ?_
      exact p_zret dL_law_1151 rfl (by omega) (by omega) (fun _ h => absurd h List.not_mem_nil) (Or.inr rfl) hf
    · replace hf := Eq.mp (if_neg hc) hf
      refine p_aload_n dL_law_27 rfl 0 rfl ?_
      refine p_iload_n dL_law_28 rfl 3 rfl ?_
      obtain ⟨c63, hf⟩ := hf
      refine p_sld (sc := sc) dL_law_29 rfl h0 c63 ?_
      refine p_bipush dL_law_30 (by decide) (by decide) ?_
      refine p_iand dL_law_32 ?_
      by_cases hc : (i32 (sc v3) &&& i32 31).toInt = 0
      · replace hf := Eq.mp (if_pos hc) hf
        refine p_tsIn (tgt := 152) (off := 119) dL_law_33 (by omega) (by omega) (by rw [hc]; rfl) (by decide) ?_
        refine p_aload_n dL_law_152 rfl 1 rfl ?_
        refine p_aload_n dL_law_153 rfl 0 rfl ?_
        refine p_iload_n dL_law_154 rfl 3 rfl ?_
        refine p_iconst dL_law_155 (by decide) ?_
        refine p_iadd dL_law_156 ?_
        obtain ⟨c64, hf⟩ := hf
        refine p_sld (sc := sc) dL_law_157 rfl h0 c64 ?_
        refine p_aload_n dL_law_158 rfl 0 rfl ?_
        refine p_iload_n dL_law_159 rfl 3 rfl ?_
        refine p_iconst dL_law_160 (by decide) ?_
        refine p_iadd dL_law_161 ?_
        obtain ⟨c65, hf⟩ := hf
        refine p_sld (sc := sc) dL_law_162 rfl h0 c65 ?_
        refine p_aload_n dL_law_163 rfl 0 rfl ?_
        refine p_iload_n dL_law_164 rfl 3 rfl ?_
        refine p_iconst dL_law_165 (by decide) ?_
        refine p_iadd dL_law_166 ?_
        obtain ⟨c66, hf⟩ := hf
        refine p_sld (sc := sc) dL_law_167 rfl h0 c66 ?_
        refine p_aload_n dL_law_168 rfl 0 rfl ?_
        refine p_iload_n dL_law_169 rfl 3 rfl ?_
        refine p_iconst dL_law_170 (by decide) ?_
        refine p_iadd dL_law_171 ?_
        obtain ⟨c67, hf⟩ := hf
        refine p_sld (sc := sc) dL_law_172 rfl h0 c67 ?_
        refine p_aload_n dL_law_173 rfl 0 rfl ?_
        refine p_iload_n dL_law_174 rfl 3 rfl ?_
        refine p_iconst dL_law_175 (by decide) ?_
        refine p_iadd dL_law_176 ?_
        obtain ⟨c68, hf⟩ := hf
        refine p_sld (sc := sc) dL_law_177 rfl h0 c68 ?_
        obtain ⟨c69, hf⟩ := hf
        refine p_callVi dL_law_178 M_X10_feed (Or.inl rfl) [vi (sc (w32 (v3 + 1))), vi (sc (w32 (v3 + 2))), vi (sc (w32 (v3 + 3))), vi (sc (w32 (v3 + 4))), vi (sc (w32 (v3 + 5)))] (t_X10_feed _ _ _ _ _ _ _ _ c69 hf) ok_X10_feed rfl (c := 10) (by decide) c69 rfl tb_279 ⟨tb_280, tb_281⟩ rfl (Nat.le_of_ble_eq_true rfl) ⟨rfl, rfl⟩ ⟨by decide, by decide⟩ ⟨by show _ ≤ 600000; omega, by show _ ≤ 7302250; omega⟩ (fun r70 h71 hf => ?_)
        refine p_aload_n dL_law_181 rfl 2 rfl ?_
        refine p_aload_n dL_law_182 rfl 0 rfl ?_
        refine p_iload_n dL_law_183 rfl 3 rfl ?_
        refine p_iconst dL_law_184 (by decide) ?_
        refine p_iadd dL_law_185 ?_
        refine p_sld (sc := sc) dL_law_186 rfl h0 c64 ?_
        refine p_aload_n dL_law_187 rfl 0 rfl ?_
        refine p_iload_n dL_law_188 rfl 3 rfl ?_
        refine p_iconst dL_law_189 (by decide) ?_
        refine p_iadd dL_law_190 ?_
        refine p_sld (sc := sc) dL_law_191 rfl h0 c65 ?_
        refine p_aload_n dL_law_192 rfl 0 rfl ?_
        refine p_iload_n dL_law_193 rfl 3 rfl ?_
        refine p_iconst dL_law_194 (by decide) ?_
        refine p_iadd dL_law_195 ?_
        refine p_sld (sc := sc) dL_law_196 rfl h0 c66 ?_
        refine p_aload_n dL_law_197 rfl 0 rfl ?_
        refine p_iload_n dL_law_198 rfl 3 rfl ?_
        refine p_iconst dL_law_199 (by decide) ?_
        refine p_iadd dL_law_200 ?_
        refine p_sld (sc := sc) dL_law_201 rfl h0 c67 ?_
        refine p_aload_n dL_law_202 rfl 0 rfl ?_
        refine p_iload_n dL_law_203 rfl 3 rfl ?_
        refine p_iconst dL_law_204 (by decide) ?_
        refine p_iadd dL_law_205 ?_
        refine p_sld (sc := sc) dL_law_206 rfl h0 c68 ?_
        obtain ⟨c72, hf⟩ := hf
        refine p_callVi dL_law_207 M_X11_feed (Or.inl rfl) [vi (sc (w32 (v3 + 1))), vi (sc (w32 (v3 + 2))), vi (sc (w32 (v3 + 3))), vi (sc (w32 (v3 + 4))), vi (sc (w32 (v3 + 5)))] (t_X11_feed _ _ _ _ _ _ _ _ c72 hf) ok_X11_feed rfl (c := 11) (by decide) c72 rfl tb_1071 ⟨tb_1072, tb_1073⟩ rfl (Nat.le_of_ble_eq_true rfl) ⟨rfl, rfl⟩ ⟨by decide, by decide⟩ ⟨by show _ ≤ 600000; omega, by show _ ≤ 7302250; omega⟩ (fun r73 h74 hf => ?_)
        refine p_icmp_eq (tgt := 1144) (q := r70 = r73) dL_law_210 (by decide) Iff.rfl (fun hc => ?_) (fun hc => ?_)
        · replace hf := Eq.mp (if_pos hc) hf
          refine p_widen (cells' := c0 + 20) (slots' := sq0 + 600) (by omega) (by omega) ?_
          exact t_L_law_1144 h0 hc0 ih _ _ _ _ hf
        · replace hf := Eq.mp (if_neg hc) hf
          refine p_iconst dL_law_213 (by decide) ?_
          exact p_zret dL_law_214 rfl (by omega) (by omega) (fun _ h => absurd h List.not_mem_nil) (Or.inl rfl) hf
      replace hf := Eq.mp (if_neg hc) hf
      have hc33_0 := hc
      clear hc
      by_cases hc : (i32 (sc v3) &&& i32 31).toInt = 1
      · replace hf := Eq.mp (if_pos hc) hf
        refine p_tsIn (tgt := 215) (off := 182) dL_law_33 (by omega) (by omega) (by rw [hc]; rfl) (by decide) ?_
        refine p_aload_n dL_law_215 rfl 1 rfl ?_
        refine p_aload_n dL_law_216 rfl 0 rfl ?_
        refine p_iload_n dL_law_217 rfl 3 rfl ?_
        refine p_iconst dL_law_218 (by decide) ?_
        refine p_iadd dL_law_219 ?_
        obtain ⟨c76, hf⟩ := hf
        refine p_sld (sc := sc) dL_law_220 rfl h0 c76 ?_
        obtain ⟨c77, hf⟩ := hf
        refine p_callVi dL_law_221 M_X10_end (Or.inr rfl) [vi (sc (w32 (v3 + 1)))] (t_X10_end _ _ _ _ c77 hf) ok_X10_end rfl (c := 10) (by decide) c77 rfl tb_287 ⟨tb_288, tb_289⟩ rfl (Nat.le_of_ble_eq_true rfl) ⟨rfl, rfl⟩ ⟨by decide, by decide⟩ ⟨by show _ ≤ 600000; omega, by show _ ≤ 7302250; omega⟩ (fun r78 h79 hf => ?_)
        refine p_aload_n dL_law_224 rfl 2 rfl ?_
        refine p_aload_n dL_law_225 rfl 0 rfl ?_
        refine p_iload_n dL_law_226 rfl 3 rfl ?_
        refine p_iconst dL_law_227 (by decide) ?_
        refine p_iadd dL_law_228 ?_
        refine p_sld (sc := sc) dL_law_229 rfl h0 c76 ?_
        obtain ⟨c80, hf⟩ := hf
        refine p_callVi dL_law_230 M_X11_end (Or.inr rfl) [vi (sc (w32 (v3 + 1)))] (t_X11_end _ _ _ _ c80 hf) ok_X11_end rfl (c := 11) (by decide) c80 rfl tb_1075 ⟨tb_1076, tb_1077⟩ rfl (Nat.le_of_ble_eq_true rfl) ⟨rfl, rfl⟩ ⟨by decide, by decide⟩ ⟨by show _ ≤ 600000; omega, by show _ ≤ 7302250; omega⟩ (fun r81 h82 hf => ?_)
        refine p_icmp_eq (tgt := 1144) (q := r78 = r81) dL_law_233 (by decide) Iff.rfl (fun hc => ?_) (fun hc => ?_)
        · replace hf := Eq.mp (if_pos hc) hf
          refine p_widen (cells' := c0 + 20) (slots' := sq0 + 600) (by omega) (by omega) ?_
          exact t_L_law_1144 h0 hc0 ih _ _ _ _ hf
        · replace hf := Eq.mp (if_neg hc) hf
          refine p_iconst dL_law_236 (by decide) ?_
          exact p_zret dL_law_237 rfl (by omega) (by omega) (fun _ h => absurd h List.not_mem_nil) (Or.inl rfl) hf
      replace hf := Eq.mp (if_neg hc) hf
      have hc33_1 := hc
      clear hc
      by_cases hc : (i32 (sc v3) &&& i32 31).toInt = 2
      · replace hf := Eq.mp (if_pos hc) hf
        refine p_tsIn (tgt := 238) (off := 205) dL_law_33 (by omega) (by omega) (by rw [hc]; rfl) (by decide) ?_
        refine p_aload_n dL_law_238 rfl 1 rfl ?_
        obtain ⟨c83, hf⟩ := hf
        refine p_callVi dL_law_239 M_X10_fault (Or.inl rfl) [] (t_X10_fault _ _ _ c83 hf) ok_X10_fault rfl (c := 10) (by decide) c83 rfl tb_291 ⟨tb_292, tb_293⟩ rfl (Nat.le_of_ble_eq_true rfl) ⟨rfl, rfl⟩ ⟨by decide, by decide⟩ ⟨by show _ ≤ 600000; omega, by show _ ≤ 7302250; omega⟩ (fun r84 h85 hf => ?_)
        refine p_aload_n dL_law_242 rfl 2 rfl ?_
        obtain ⟨c86, hf⟩ := hf
        refine p_callVi dL_law_243 M_X11_fault (Or.inl rfl) [] (t_X11_fault _ _ _ c86 hf) ok_X11_fault rfl (c := 11) (by decide) c86 rfl tb_1082 ⟨tb_1083, tb_1084⟩ rfl (Nat.le_of_ble_eq_true rfl) ⟨rfl, rfl⟩ ⟨by decide, by decide⟩ ⟨by show _ ≤ 600000; omega, by show _ ≤ 7302250; omega⟩ (fun r87 h88 hf => ?_)
        refine p_icmp_eq (tgt := 1144) (q := r84 = r87) dL_law_246 (by decide) Iff.rfl (fun hc => ?_) (fun hc => ?_)
        · replace hf := Eq.mp (if_pos hc) hf
          refine p_widen (cells' := c0 + 20) (slots' := sq0 + 600) (by omega) (by omega) ?_
          exact t_L_law_1144 h0 hc0 ih _ _ _ _ hf
        · replace hf := Eq.mp (if_neg hc) hf
          refine p_iconst dL_law_249 (by decide) ?_
          exact p_zret dL_law_250 rfl (by omega) (by omega) (fun _ h => absurd h List.not_mem_nil) (Or.inl rfl) hf
      replace hf := Eq.mp (if_neg hc) hf
      have hc33_2 := hc
      clear hc
      by_cases hc : (i32 (sc v3) &&& i32 31).toInt = 3
      · replace hf := Eq.mp (if_pos hc) hf
        refine p_tsIn (tgt := 251) (off := 218) dL_law_33 (by omega) (by omega) (by rw [hc]; rfl) (by decide) ?_
        refine p_aload_n dL_law_251 rfl 1 rfl ?_
        obtain ⟨c89, hf⟩ := hf
        refine p_callVi dL_law_252 M_X10_rule (Or.inl rfl) [] (t_X10_rule _ _ _ c89 hf) ok_X10_rule rfl (c := 10) (by decide) c89 rfl tb_335 ⟨tb_336, tb_337⟩ rfl (Nat.le_of_ble_eq_true rfl) ⟨rfl, rfl⟩ ⟨by decide, by decide⟩ ⟨by show _ ≤ 600000; omega, by show _ ≤ 7302250; omega⟩ (fun r90 h91 hf => ?_)
        refine p_aload_n dL_law_255 rfl 2 rfl ?_
        obtain ⟨c92, hf⟩ := hf
        refine p_callVi dL_law_256 M_X11_rule (Or.inl rfl) [] (t_X11_rule _ _ _ c92 hf) ok_X11_rule rfl (c := 11) (by decide) c92 rfl tb_1115 ⟨tb_1116, tb_1117⟩ rfl (Nat.le_of_ble_eq_true rfl) ⟨rfl, rfl⟩ ⟨by decide, by decide⟩ ⟨by show _ ≤ 600000; omega, by show _ ≤ 7302250; omega⟩ (fun r93 h94 hf => ?_)
        refine p_icmp_eq (tgt := 1144) (q := r90 = r93) dL_law_259 (by decide) Iff.rfl (fun hc => ?_) (fun hc => ?_)
        · replace hf := Eq.mp (if_pos hc) hf
          refine p_widen (cells' := c0 + 20) (slots' := sq0 + 600) (by omega) (by omega) ?_
          exact t_L_law_1144 h0 hc0 ih _ _ _ _ hf
        · replace hf := Eq.mp (if_neg hc) hf
          refine p_iconst dL_law_262 (by decide) ?_
          exact p_zret dL_law_263 rfl (by omega) (by omega) (fun _ h => absurd h List.not_mem_nil) (Or.inl rfl) hf
      replace hf := Eq.mp (if_neg hc) hf
      have hc33_3 := hc
      clear hc
      by_cases hc : (i32 (sc v3) &&& i32 31).toInt = 4
      · replace hf := Eq.mp (if_pos hc) hf
        refine p_tsIn (tgt := 264) (off := 231) dL_law_33 (by omega) (by omega) (by rw [hc]; rfl) (by decide) ?_
        refine p_aload_n dL_law_264 rfl 1 rfl ?_
        refine p_aload_n dL_law_265 rfl 0 rfl ?_
        refine p_iload_n dL_law_266 rfl 3 rfl ?_
        refine p_iconst dL_law_267 (by decide) ?_
        refine p_iadd dL_law_268 ?_
        obtain ⟨c95, hf⟩ := hf
        refine p_sld (sc := sc) dL_law_269 rfl h0 c95 ?_
        refine p_aload_n dL_law_270 rfl 0 rfl ?_
        refine p_iload_n dL_law_271 rfl 3 rfl ?_
        refine p_iconst dL_law_272 (by decide) ?_
        refine p_iadd dL_law_273 ?_
        obtain ⟨c96, hf⟩ := hf
        refine p_sld (sc := sc) dL_law_274 rfl h0 c96 ?_
        obtain ⟨c97, hf⟩ := hf
        refine p_callVi dL_law_275 M_X10_told (Or.inl rfl) [vi (sc (w32 (v3 + 1))), vi (sc (w32 (v3 + 2)))] (t_X10_told _ _ _ _ _ c97 hf) ok_X10_told rfl (c := 10) (by decide) c97 rfl tb_381 ⟨tb_382, tb_383⟩ rfl (Nat.le_of_ble_eq_true rfl) ⟨rfl, rfl⟩ ⟨by decide, by decide⟩ ⟨by show _ ≤ 600000; omega, by show _ ≤ 7302250; omega⟩ (fun r98 h99 hf => ?_)
        refine p_aload_n dL_law_278 rfl 2 rfl ?_
        refine p_aload_n dL_law_279 rfl 0 rfl ?_
        refine p_iload_n dL_law_280 rfl 3 rfl ?_
        refine p_iconst dL_law_281 (by decide) ?_
        refine p_iadd dL_law_282 ?_
        refine p_sld (sc := sc) dL_law_283 rfl h0 c95 ?_
        refine p_aload_n dL_law_284 rfl 0 rfl ?_
        refine p_iload_n dL_law_285 rfl 3 rfl ?_
        refine p_iconst dL_law_286 (by decide) ?_
        refine p_iadd dL_law_287 ?_
        refine p_sld (sc := sc) dL_law_288 rfl h0 c96 ?_
        obtain ⟨c100, hf⟩ := hf
        refine p_callVi dL_law_289 M_X11_told (Or.inl rfl) [vi (sc (w32 (v3 + 1))), vi (sc (w32 (v3 + 2)))] (t_X11_told _ _ _ _ _ c100 hf) ok_X11_told rfl (c := 11) (by decide) c100 rfl tb_1119 ⟨tb_1120, tb_1121⟩ rfl (Nat.le_of_ble_eq_true rfl) ⟨rfl, rfl⟩ ⟨by decide, by decide⟩ ⟨by show _ ≤ 600000; omega, by show _ ≤ 7302250; omega⟩ (fun r101 h102 hf => ?_)
        refine p_icmp_eq (tgt := 1144) (q := r98 = r101) dL_law_292 (by decide) Iff.rfl (fun hc => ?_) (fun hc => ?_)
        · replace hf := Eq.mp (if_pos hc) hf
          refine p_widen (cells' := c0 + 20) (slots' := sq0 + 600) (by omega) (by omega) ?_
          exact t_L_law_1144 h0 hc0 ih _ _ _ _ hf
        · replace hf := Eq.mp (if_neg hc) hf
          refine p_iconst dL_law_295 (by decide) ?_
          exact p_zret dL_law_296 rfl (by omega) (by omega) (fun _ h => absurd h List.not_mem_nil) (Or.inl rfl) hf
      replace hf := Eq.mp (if_neg hc) hf
      have hc33_4 := hc
      clear hc
      by_cases hc : (i32 (sc v3) &&& i32 31).toInt = 5
      · replace hf := Eq.mp (if_pos hc) hf
        refine p_tsIn (tgt := 297) (off := 264) dL_law_33 (by omega) (by omega) (by rw [hc]; rfl) (by decide) ?_
        refine p_aload_n dL_law_297 rfl 1 rfl ?_
        refine p_aload_n dL_law_298 rfl 0 rfl ?_
        refine p_iload_n dL_law_299 rfl 3 rfl ?_
        refine p_iconst dL_law_300 (by decide) ?_
        refine p_iadd dL_law_301 ?_
        obtain ⟨c103, hf⟩ := hf
        refine p_sld (sc := sc) dL_law_302 rfl h0 c103 ?_
        refine p_aload_n dL_law_303 rfl 0 rfl ?_
        refine p_iload_n dL_law_304 rfl 3 rfl ?_
        refine p_iconst dL_law_305 (by decide) ?_
        refine p_iadd dL_law_306 ?_
        obtain ⟨c104, hf⟩ := hf
        refine p_sld (sc := sc) dL_law_307 rfl h0 c104 ?_
        refine p_aload_n dL_law_308 rfl 0 rfl ?_
        refine p_iload_n dL_law_309 rfl 3 rfl ?_
        refine p_iconst dL_law_310 (by decide) ?_
        refine p_iadd dL_law_311 ?_
        obtain ⟨c105, hf⟩ := hf
        refine p_sld (sc := sc) dL_law_312 rfl h0 c105 ?_
        refine p_aload_n dL_law_313 rfl 0 rfl ?_
        refine p_iload_n dL_law_314 rfl 3 rfl ?_
        refine p_iconst dL_law_315 (by decide) ?_
        refine p_iadd dL_law_316 ?_
        obtain ⟨c106, hf⟩ := hf
        refine p_sld (sc := sc) dL_law_317 rfl h0 c106 ?_
        refine p_aload_n dL_law_318 rfl 0 rfl ?_
        refine p_iload_n dL_law_319 rfl 3 rfl ?_
        refine p_iconst dL_law_320 (by decide) ?_
        refine p_iadd dL_law_321 ?_
        obtain ⟨c107, hf⟩ := hf
        refine p_sld (sc := sc) dL_law_322 rfl h0 c107 ?_
        obtain ⟨c108, hf⟩ := hf
        refine p_callVi dL_law_323 M_X10_range (Or.inl rfl) [vi (sc (w32 (v3 + 1))), vi (sc (w32 (v3 + 2))), vi (sc (w32 (v3 + 3))), vi (sc (w32 (v3 + 4))), vi (sc (w32 (v3 + 5)))] (t_X10_range _ _ _ _ _ _ _ _ c108 hf) ok_X10_range rfl (c := 10) (by decide) c108 rfl tb_403 ⟨tb_404, tb_405⟩ rfl (Nat.le_of_ble_eq_true rfl) ⟨rfl, rfl⟩ ⟨by decide, by decide⟩ ⟨by show _ ≤ 600000; omega, by show _ ≤ 7302250; omega⟩ (fun r109 h110 hf => ?_)
        refine p_aload_n dL_law_326 rfl 2 rfl ?_
        refine p_aload_n dL_law_327 rfl 0 rfl ?_
        refine p_iload_n dL_law_328 rfl 3 rfl ?_
        refine p_iconst dL_law_329 (by decide) ?_
        refine p_iadd dL_law_330 ?_
        refine p_sld (sc := sc) dL_law_331 rfl h0 c103 ?_
        refine p_aload_n dL_law_332 rfl 0 rfl ?_
        refine p_iload_n dL_law_333 rfl 3 rfl ?_
        refine p_iconst dL_law_334 (by decide) ?_
        refine p_iadd dL_law_335 ?_
        refine p_sld (sc := sc) dL_law_336 rfl h0 c104 ?_
        refine p_aload_n dL_law_337 rfl 0 rfl ?_
        refine p_iload_n dL_law_338 rfl 3 rfl ?_
        refine p_iconst dL_law_339 (by decide) ?_
        refine p_iadd dL_law_340 ?_
        refine p_sld (sc := sc) dL_law_341 rfl h0 c105 ?_
        refine p_aload_n dL_law_342 rfl 0 rfl ?_
        refine p_iload_n dL_law_343 rfl 3 rfl ?_
        refine p_iconst dL_law_344 (by decide) ?_
        refine p_iadd dL_law_345 ?_
        refine p_sld (sc := sc) dL_law_346 rfl h0 c106 ?_
        refine p_aload_n dL_law_347 rfl 0 rfl ?_
        refine p_iload_n dL_law_348 rfl 3 rfl ?_
        refine p_iconst dL_law_349 (by decide) ?_
        refine p_iadd dL_law_350 ?_
        refine p_sld (sc := sc) dL_law_351 rfl h0 c107 ?_
        obtain ⟨c111, hf⟩ := hf
        refine p_callVi dL_law_352 M_X11_range (Or.inl rfl) [vi (sc (w32 (v3 + 1))), vi (sc (w32 (v3 + 2))), vi (sc (w32 (v3 + 3))), vi (sc (w32 (v3 + 4))), vi (sc (w32 (v3 + 5)))] (t_X11_range _ _ _ _ _ _ _ _ c111 hf) ok_X11_range rfl (c := 11) (by decide) c111 rfl tb_1130 ⟨tb_1131, tb_1132⟩ rfl (Nat.le_of_ble_eq_true rfl) ⟨rfl, rfl⟩ ⟨by decide, by decide⟩ ⟨by show _ ≤ 600000; omega, by show _ ≤ 7302250; omega⟩ (fun r112 h113 hf => ?_)
        refine p_icmp_eq (tgt := 1144) (q := r109 = r112) dL_law_355 (by decide) Iff.rfl (fun hc => ?_) (fun hc => ?_)
        · replace hf := Eq.mp (if_pos hc) hf
          refine p_widen (cells' := c0 + 20) (slots' := sq0 + 600) (by omega) (by omega) ?_
          exact t_L_law_1144 h0 hc0 ih _ _ _ _ hf
        · replace hf := Eq.mp (if_neg hc) hf
          refine p_iconst dL_law_358 (by decide) ?_
          exact p_zret dL_law_359 rfl (by omega) (by omega) (fun _ h => absurd h List.not_mem_nil) (Or.inl rfl) hf
      replace hf := Eq.mp (if_neg hc) hf
      have hc33_5 := hc
      clear hc
      by_cases hc : (i32 (sc v3) &&& i32 31).toInt = 6
      · replace hf := Eq.mp (if_pos hc) hf
        refine p_tsIn (tgt := 360) (off := 327) dL_law_33 (by omega) (by omega) (by rw [hc]; rfl) (by decide) ?_
        refine p_aload_n dL_law_360 rfl 1 rfl ?_
        refine p_aload_n dL_law_361 rfl 0 rfl ?_
        refine p_iload_n dL_law_362 rfl 3 rfl ?_
        refine p_iconst dL_law_363 (by decide) ?_
        refine p_iadd dL_law_364 ?_
        obtain ⟨c114, hf⟩ := hf
        refine p_sld (sc := sc) dL_law_365 rfl h0 c114 ?_
        refine p_aload_n dL_law_366 rfl 0 rfl ?_
        refine p_iload_n dL_law_367 rfl 3 rfl ?_
        refine p_iconst dL_law_368 (by decide) ?_
        refine p_iadd dL_law_369 ?_
        obtain ⟨c115, hf⟩ := hf
        refine p_sld (sc := sc) dL_law_370 rfl h0 c115 ?_
        refine p_aload_n dL_law_371 rfl 0 rfl ?_
        refine p_iload_n dL_law_372 rfl 3 rfl ?_
        refine p_iconst dL_law_373 (by decide) ?_
        refine p_iadd dL_law_374 ?_
        obtain ⟨c116, hf⟩ := hf
        refine p_sld (sc := sc) dL_law_375 rfl h0 c116 ?_
        obtain ⟨c117, hf⟩ := hf
        refine p_callVi dL_law_376 M_X10_mark (Or.inl rfl) [vi (sc (w32 (v3 + 1))), vi (sc (w32 (v3 + 2))), vi (sc (w32 (v3 + 3)))] (t_X10_mark _ _ _ _ _ _ c117 hf) ok_X10_mark rfl (c := 10) (by decide) c117 rfl tb_437 ⟨tb_438, tb_439⟩ rfl (Nat.le_of_ble_eq_true rfl) ⟨rfl, rfl⟩ ⟨by decide, by decide⟩ ⟨by show _ ≤ 600000; omega, by show _ ≤ 7302250; omega⟩ (fun r118 h119 hf => ?_)
        refine p_aload_n dL_law_379 rfl 2 rfl ?_
        refine p_aload_n dL_law_380 rfl 0 rfl ?_
        refine p_iload_n dL_law_381 rfl 3 rfl ?_
        refine p_iconst dL_law_382 (by decide) ?_
        refine p_iadd dL_law_383 ?_
        refine p_sld (sc := sc) dL_law_384 rfl h0 c114 ?_
        refine p_aload_n dL_law_385 rfl 0 rfl ?_
        refine p_iload_n dL_law_386 rfl 3 rfl ?_
        refine p_iconst dL_law_387 (by decide) ?_
        refine p_iadd dL_law_388 ?_
        refine p_sld (sc := sc) dL_law_389 rfl h0 c115 ?_
        refine p_aload_n dL_law_390 rfl 0 rfl ?_
        refine p_iload_n dL_law_391 rfl 3 rfl ?_
        refine p_iconst dL_law_392 (by decide) ?_
        refine p_iadd dL_law_393 ?_
        refine p_sld (sc := sc) dL_law_394 rfl h0 c116 ?_
        obtain ⟨c120, hf⟩ := hf
        refine p_callVi dL_law_395 M_X11_mark (Or.inl rfl) [vi (sc (w32 (v3 + 1))), vi (sc (w32 (v3 + 2))), vi (sc (w32 (v3 + 3)))] (t_X11_mark _ _ _ _ _ _ c120 hf) ok_X11_mark rfl (c := 11) (by decide) c120 rfl tb_1144 ⟨tb_1145, tb_1146⟩ rfl (Nat.le_of_ble_eq_true rfl) ⟨rfl, rfl⟩ ⟨by decide, by decide⟩ ⟨by show _ ≤ 600000; omega, by show _ ≤ 7302250; omega⟩ (fun r121 h122 hf => ?_)
        refine p_icmp_eq (tgt := 1144) (q := r118 = r121) dL_law_398 (by decide) Iff.rfl (fun hc => ?_) (fun hc => ?_)
        · replace hf := Eq.mp (if_pos hc) hf
          refine p_widen (cells' := c0 + 20) (slots' := sq0 + 600) (by omega) (by omega) ?_
          exact t_L_law_1144 h0 hc0 ih _ _ _ _ hf
        · replace hf := Eq.mp (if_neg hc) hf
          refine p_iconst dL_law_401 (by decide) ?_
          exact p_zret dL_law_402 rfl (by omega) (by omega) (fun _ h => absurd h List.not_mem_nil) (Or.inl rfl) hf
      replace hf := Eq.mp (if_neg hc) hf
      have hc33_6 := hc
      clear hc
      by_cases hc : (i32 (sc v3) &&& i32 31).toInt = 7
      · replace hf := Eq.mp (if_pos hc) hf
        refine p_tsIn (tgt := 403) (off := 370) dL_law_33 (by omega) (by omega) (by rw [hc]; rfl) (by decide) ?_
        refine p_aload_n dL_law_403 rfl 1 rfl ?_
        refine p_aload_n dL_law_404 rfl 0 rfl ?_
        refine p_iload_n dL_law_405 rfl 3 rfl ?_
        refine p_iconst dL_law_406 (by decide) ?_
        refine p_iadd dL_law_407 ?_
        obtain ⟨c123, hf⟩ := hf
        refine p_sld (sc := sc) dL_law_408 rfl h0 c123 ?_
        refine p_aload_n dL_law_409 rfl 0 rfl ?_
        refine p_iload_n dL_law_410 rfl 3 rfl ?_
        refine p_iconst dL_law_411 (by decide) ?_
        refine p_iadd dL_law_412 ?_
        obtain ⟨c124, hf⟩ := hf
        refine p_sld (sc := sc) dL_law_413 rfl h0 c124 ?_
        refine p_aload_n dL_law_414 rfl 0 rfl ?_
        refine p_iload_n dL_law_415 rfl 3 rfl ?_
        refine p_iconst dL_law_416 (by decide) ?_
        refine p_iadd dL_law_417 ?_
        obtain ⟨c125, hf⟩ := hf
        refine p_sld (sc := sc) dL_law_418 rfl h0 c125 ?_
        refine p_aload_n dL_law_419 rfl 0 rfl ?_
        refine p_iload_n dL_law_420 rfl 3 rfl ?_
        refine p_iconst dL_law_421 (by decide) ?_
        refine p_iadd dL_law_422 ?_
        obtain ⟨c126, hf⟩ := hf
        refine p_sld (sc := sc) dL_law_423 rfl h0 c126 ?_
        refine p_aload_n dL_law_424 rfl 0 rfl ?_
        refine p_iload_n dL_law_425 rfl 3 rfl ?_
        refine p_iconst dL_law_426 (by decide) ?_
        refine p_iadd dL_law_427 ?_
        obtain ⟨c127, hf⟩ := hf
        refine p_sld (sc := sc) dL_law_428 rfl h0 c127 ?_
        refine p_aload_n dL_law_429 rfl 0 rfl ?_
        refine p_iload_n dL_law_430 rfl 3 rfl ?_
        refine p_bipush dL_law_431 (by decide) (by decide) ?_
        refine p_iadd dL_law_433 ?_
        obtain ⟨c128, hf⟩ := hf
        refine p_sld (sc := sc) dL_law_434 rfl h0 c128 ?_
        obtain ⟨c129, hf⟩ := hf
        refine p_callVi dL_law_435 M_X10_chart (Or.inl rfl) [vi (sc (w32 (v3 + 1))), vi (sc (w32 (v3 + 2))), vi (sc (w32 (v3 + 3))), vi (sc (w32 (v3 + 4))), vi (sc (w32 (v3 + 5))), vi (sc (w32 (v3 + 6)))] (t_X10_chart _ _ _ _ _ _ _ _ _ c129 hf) ok_X10_chart rfl (c := 10) (by decide) c129 rfl tb_450 ⟨tb_451, tb_452⟩ rfl (Nat.le_of_ble_eq_true rfl) ⟨rfl, rfl⟩ ⟨by decide, by decide⟩ ⟨by show _ ≤ 600000; omega, by show _ ≤ 7302250; omega⟩ (fun r130 h131 hf => ?_)
        refine p_aload_n dL_law_438 rfl 2 rfl ?_
        refine p_aload_n dL_law_439 rfl 0 rfl ?_
        refine p_iload_n dL_law_440 rfl 3 rfl ?_
        refine p_iconst dL_law_441 (by decide) ?_
        refine p_iadd dL_law_442 ?_
        refine p_sld (sc := sc) dL_law_443 rfl h0 c123 ?_
        refine p_aload_n dL_law_444 rfl 0 rfl ?_
        refine p_iload_n dL_law_445 rfl 3 rfl ?_
        refine p_iconst dL_law_446 (by decide) ?_
        refine p_iadd dL_law_447 ?_
        refine p_sld (sc := sc) dL_law_448 rfl h0 c124 ?_
        refine p_aload_n dL_law_449 rfl 0 rfl ?_
        refine p_iload_n dL_law_450 rfl 3 rfl ?_
        refine p_iconst dL_law_451 (by decide) ?_
        refine p_iadd dL_law_452 ?_
        refine p_sld (sc := sc) dL_law_453 rfl h0 c125 ?_
        refine p_aload_n dL_law_454 rfl 0 rfl ?_
        refine p_iload_n dL_law_455 rfl 3 rfl ?_
        refine p_iconst dL_law_456 (by decide) ?_
        refine p_iadd dL_law_457 ?_
        refine p_sld (sc := sc) dL_law_458 rfl h0 c126 ?_
        refine p_aload_n dL_law_459 rfl 0 rfl ?_
        refine p_iload_n dL_law_460 rfl 3 rfl ?_
        refine p_iconst dL_law_461 (by decide) ?_
        refine p_iadd dL_law_462 ?_
        refine p_sld (sc := sc) dL_law_463 rfl h0 c127 ?_
        refine p_aload_n dL_law_464 rfl 0 rfl ?_
        refine p_iload_n dL_law_465 rfl 3 rfl ?_
        refine p_bipush dL_law_466 (by decide) (by decide) ?_
        refine p_iadd dL_law_468 ?_
        refine p_sld (sc := sc) dL_law_469 rfl h0 c128 ?_
        obtain ⟨c132, hf⟩ := hf
        refine p_callVi dL_law_470 M_X11_chart (Or.inl rfl) [vi (sc (w32 (v3 + 1))), vi (sc (w32 (v3 + 2))), vi (sc (w32 (v3 + 3))), vi (sc (w32 (v3 + 4))), vi (sc (w32 (v3 + 5))), vi (sc (w32 (v3 + 6)))] (t_X11_chart _ _ _ _ _ _ _ _ _ c132 hf) ok_X11_chart rfl (c := 11) (by decide) c132 rfl tb_1152 ⟨tb_1153, tb_1154⟩ rfl (Nat.le_of_ble_eq_true rfl) ⟨rfl, rfl⟩ ⟨by decide, by decide⟩ ⟨by show _ ≤ 600000; omega, by show _ ≤ 7302250; omega⟩ (fun r133 h134 hf => ?_)
        refine p_icmp_eq (tgt := 1144) (q := r130 = r133) dL_law_473 (by decide) Iff.rfl (fun hc => ?_) (fun hc => ?_)
        · replace hf := Eq.mp (if_pos hc) hf
          refine p_widen (cells' := c0 + 20) (slots' := sq0 + 600) (by omega) (by omega) ?_
          exact t_L_law_1144 h0 hc0 ih _ _ _ _ hf
        · replace hf := Eq.mp (if_neg hc) hf
          refine p_iconst dL_law_476 (by decide) ?_
          exact p_zret dL_law_477 rfl (by omega) (by omega) (fun _ h => absurd h List.not_mem_nil) (Or.inl rfl) hf
      replace hf := Eq.mp (if_neg hc) hf
      have hc33_7 := hc
      clear hc
      by_cases hc : (i32 (sc v3) &&& i32 31).toInt = 8
      · replace hf := Eq.mp (if_pos hc) hf
        refine p_tsIn (tgt := 478) (off := 445) dL_law_33 (by omega) (by omega) (by rw [hc]; rfl) (by decide) ?_
        refine p_aload_n dL_law_478 rfl 1 rfl ?_
        refine p_aload_n dL_law_479 rfl 0 rfl ?_
        refine p_iload_n dL_law_480 rfl 3 rfl ?_
        refine p_iconst dL_law_481 (by decide) ?_
        refine p_iadd dL_law_482 ?_
        obtain ⟨c135, hf⟩ := hf
        refine p_sld (sc := sc) dL_law_483 rfl h0 c135 ?_
        refine p_aload_n dL_law_484 rfl 0 rfl ?_
        refine p_iload_n dL_law_485 rfl 3 rfl ?_
        refine p_iconst dL_law_486 (by decide) ?_
        refine p_iadd dL_law_487 ?_
        obtain ⟨c136, hf⟩ := hf
        refine p_sld (sc := sc) dL_law_488 rfl h0 c136 ?_
        obtain ⟨c137, hf⟩ := hf
        refine p_callVi dL_law_489 M_X10_reading (Or.inr rfl) [vi (sc (w32 (v3 + 1))), vi (sc (w32 (v3 + 2)))] (t_X10_reading _ _ _ _ _ c137 hf) ok_X10_reading rfl (c := 10) (by decide) c137 rfl tb_571 ⟨tb_572, tb_573⟩ rfl (Nat.le_of_ble_eq_true rfl) ⟨rfl, rfl⟩ ⟨by decide, by decide⟩ ⟨by show _ ≤ 600000; omega, by show _ ≤ 7302250; omega⟩ (fun r138 h139 hf => ?_)
        refine p_aload_n dL_law_492 rfl 2 rfl ?_
        refine p_aload_n dL_law_493 rfl 0 rfl ?_
        refine p_iload_n dL_law_494 rfl 3 rfl ?_
        refine p_iconst dL_law_495 (by decide) ?_
        refine p_iadd dL_law_496 ?_
        refine p_sld (sc := sc) dL_law_497 rfl h0 c135 ?_
        refine p_aload_n dL_law_498 rfl 0 rfl ?_
        refine p_iload_n dL_law_499 rfl 3 rfl ?_
        refine p_iconst dL_law_500 (by decide) ?_
        refine p_iadd dL_law_501 ?_
        refine p_sld (sc := sc) dL_law_502 rfl h0 c136 ?_
        obtain ⟨c140, hf⟩ := hf
        refine p_callVi dL_law_503 M_X11_reading (Or.inr rfl) [vi (sc (w32 (v3 + 1))), vi (sc (w32 (v3 + 2)))] (t_X11_reading _ _ _ _ _ c140 hf) ok_X11_reading rfl (c := 11) (by decide) c140 rfl tb_1161 ⟨tb_1162, tb_1163⟩ rfl (Nat.le_of_ble_eq_true rfl) ⟨rfl, rfl⟩ ⟨by decide, by decide⟩ ⟨by show _ ≤ 600000; omega, by show _ ≤ 7302250; omega⟩ (fun r141 h142 hf => ?_)
        refine p_icmp_eq (tgt := 1144) (q := r138 = r141) dL_law_506 (by decide) Iff.rfl (fun hc => ?_) (fun hc => ?_)
        · replace hf := Eq.mp (if_pos hc) hf
          refine p_widen (cells' := c0 + 20) (slots' := sq0 + 600) (by omega) (by omega) ?_
          exact t_L_law_1144 h0 hc0 ih _ _ _ _ hf
        · replace hf := Eq.mp (if_neg hc) hf
          refine p_iconst dL_law_509 (by decide) ?_
          exact p_zret dL_law_510 rfl (by omega) (by omega) (fun _ h => absurd h List.not_mem_nil) (Or.inl rfl) hf
      replace hf := Eq.mp (if_neg hc) hf
      have hc33_8 := hc
      clear hc
      by_cases hc : (i32 (sc v3) &&& i32 31).toInt = 9
      · replace hf := Eq.mp (if_pos hc) hf
        refine p_tsIn (tgt := 511) (off := 478) dL_law_33 (by omega) (by omega) (by rw [hc]; rfl) (by decide) ?_
        refine p_aload_n dL_law_511 rfl 1 rfl ?_
        refine p_aload_n dL_law_512 rfl 0 rfl ?_
        refine p_iload_n dL_law_513 rfl 3 rfl ?_
        refine p_iconst dL_law_514 (by decide) ?_
        refine p_iadd dL_law_515 ?_
        obtain ⟨c143, hf⟩ := hf
        refine p_sld (sc := sc) dL_law_516 rfl h0 c143 ?_
        refine p_aload_n dL_law_517 rfl 0 rfl ?_
        refine p_iload_n dL_law_518 rfl 3 rfl ?_
        refine p_iconst dL_law_519 (by decide) ?_
        refine p_iadd dL_law_520 ?_
        obtain ⟨c144, hf⟩ := hf
        refine p_sld (sc := sc) dL_law_521 rfl h0 c144 ?_
        obtain ⟨c145, hf⟩ := hf
        refine p_callVi dL_law_522 M_X10_read (Or.inl rfl) [vi (sc (w32 (v3 + 1))), vi (sc (w32 (v3 + 2)))] (t_X10_read _ _ _ _ _ c145 hf) ok_X10_read rfl (c := 10) (by decide) c145 rfl tb_584 ⟨tb_585, tb_586⟩ rfl (Nat.le_of_ble_eq_true rfl) ⟨rfl, rfl⟩ ⟨by decide, by decide⟩ ⟨by show _ ≤ 600000; omega, by show _ ≤ 7302250; omega⟩ (fun r146 h147 hf => ?_)
        refine p_aload_n dL_law_525 rfl 2 rfl ?_
        refine p_aload_n dL_law_526 rfl 0 rfl ?_
        refine p_iload_n dL_law_527 rfl 3 rfl ?_
        refine p_iconst dL_law_528 (by decide) ?_
        refine p_iadd dL_law_529 ?_
        refine p_sld (sc := sc) dL_law_530 rfl h0 c143 ?_
        refine p_aload_n dL_law_531 rfl 0 rfl ?_
        refine p_iload_n dL_law_532 rfl 3 rfl ?_
        refine p_iconst dL_law_533 (by decide) ?_
        refine p_iadd dL_law_534 ?_
        refine p_sld (sc := sc) dL_law_535 rfl h0 c144 ?_
        obtain ⟨c148, hf⟩ := hf
        refine p_callVi dL_law_536 M_X11_read (Or.inl rfl) [vi (sc (w32 (v3 + 1))), vi (sc (w32 (v3 + 2)))] (t_X11_read _ _ _ _ _ c148 hf) ok_X11_read rfl (c := 11) (by decide) c148 rfl tb_1195 ⟨tb_1196, tb_1197⟩ rfl (Nat.le_of_ble_eq_true rfl) ⟨rfl, rfl⟩ ⟨by decide, by decide⟩ ⟨by show _ ≤ 600000; omega, by show _ ≤ 7302250; omega⟩ (fun r149 h150 hf => ?_)
        refine p_icmp_eq (tgt := 1144) (q := r146 = r149) dL_law_539 (by decide) Iff.rfl (fun hc => ?_) (fun hc => ?_)
        · replace hf := Eq.mp (if_pos hc) hf
          refine p_widen (cells' := c0 + 20) (slots' := sq0 + 600) (by omega) (by omega) ?_
          exact t_L_law_1144 h0 hc0 ih _ _ _ _ hf
        · replace hf := Eq.mp (if_neg hc) hf
          refine p_iconst dL_law_542 (by decide) ?_
          exact p_zret dL_law_543 rfl (by omega) (by omega) (fun _ h => absurd h List.not_mem_nil) (Or.inl rfl) hf
      replace hf := Eq.mp (if_neg hc) hf
      have hc33_9 := hc
      clear hc
      by_cases hc : (i32 (sc v3) &&& i32 31).toInt = 10
      · replace hf := Eq.mp (if_pos hc) hf
        refine p_tsIn (tgt := 544) (off := 511) dL_law_33 (by omega) (by omega) (by rw [hc]; rfl) (by decide) ?_
        refine p_aload_n dL_law_544 rfl 1 rfl ?_
        refine p_aload_n dL_law_545 rfl 0 rfl ?_
        refine p_iload_n dL_law_546 rfl 3 rfl ?_
        refine p_iconst dL_law_547 (by decide) ?_
        refine p_iadd dL_law_548 ?_
        obtain ⟨c151, hf⟩ := hf
        refine p_sld (sc := sc) dL_law_549 rfl h0 c151 ?_
        refine p_aload_n dL_law_550 rfl 0 rfl ?_
        refine p_iload_n dL_law_551 rfl 3 rfl ?_
        refine p_iconst dL_law_552 (by decide) ?_
        refine p_iadd dL_law_553 ?_
        obtain ⟨c152, hf⟩ := hf
        refine p_sld (sc := sc) dL_law_554 rfl h0 c152 ?_
        obtain ⟨c153, hf⟩ := hf
        refine p_callVi dL_law_555 M_X10_lead (Or.inl rfl) [vi (sc (w32 (v3 + 1))), vi (sc (w32 (v3 + 2)))] (t_X10_lead _ _ _ _ _ c153 hf) ok_X10_lead rfl (c := 10) (by decide) c153 rfl tb_652 ⟨tb_653, tb_654⟩ rfl (Nat.le_of_ble_eq_true rfl) ⟨rfl, rfl⟩ ⟨by decide, by decide⟩ ⟨by show _ ≤ 600000; omega, by show _ ≤ 7302250; omega⟩ (fun r154 h155 hf => ?_)
        refine p_aload_n dL_law_558 rfl 2 rfl ?_
        refine p_aload_n dL_law_559 rfl 0 rfl ?_
        refine p_iload_n dL_law_560 rfl 3 rfl ?_
        refine p_iconst dL_law_561 (by decide) ?_
        refine p_iadd dL_law_562 ?_
        refine p_sld (sc := sc) dL_law_563 rfl h0 c151 ?_
        refine p_aload_n dL_law_564 rfl 0 rfl ?_
        refine p_iload_n dL_law_565 rfl 3 rfl ?_
        refine p_iconst dL_law_566 (by decide) ?_
        refine p_iadd dL_law_567 ?_
        refine p_sld (sc := sc) dL_law_568 rfl h0 c152 ?_
        obtain ⟨c156, hf⟩ := hf
        refine p_callVi dL_law_569 M_X11_lead (Or.inl rfl) [vi (sc (w32 (v3 + 1))), vi (sc (w32 (v3 + 2)))] (t_X11_lead _ _ _ _ _ c156 hf) ok_X11_lead rfl (c := 11) (by decide) c156 rfl tb_1227 ⟨tb_1228, tb_1229⟩ rfl (Nat.le_of_ble_eq_true rfl) ⟨rfl, rfl⟩ ⟨by decide, by decide⟩ ⟨by show _ ≤ 600000; omega, by show _ ≤ 7302250; omega⟩ (fun r157 h158 hf => ?_)
        refine p_icmp_eq (tgt := 1144) (q := r154 = r157) dL_law_572 (by decide) Iff.rfl (fun hc => ?_) (fun hc => ?_)
        · replace hf := Eq.mp (if_pos hc) hf
          refine p_widen (cells' := c0 + 20) (slots' := sq0 + 600) (by omega) (by omega) ?_
          exact t_L_law_1144 h0 hc0 ih _ _ _ _ hf
        · replace hf := Eq.mp (if_neg hc) hf
          refine p_iconst dL_law_575 (by decide) ?_
          exact p_zret dL_law_576 rfl (by omega) (by omega) (fun _ h => absurd h List.not_mem_nil) (Or.inl rfl) hf
      replace hf := Eq.mp (if_neg hc) hf
      have hc33_10 := hc
      clear hc
      by_cases hc : (i32 (sc v3) &&& i32 31).toInt = 11
      · replace hf := Eq.mp (if_pos hc) hf
        refine p_tsIn (tgt := 577) (off := 544) dL_law_33 (by omega) (by omega) (by rw [hc]; rfl) (by decide) ?_
        refine p_aload_n dL_law_577 rfl 1 rfl ?_
        refine p_aload_n dL_law_578 rfl 0 rfl ?_
        refine p_iload_n dL_law_579 rfl 3 rfl ?_
        refine p_iconst dL_law_580 (by decide) ?_
        refine p_iadd dL_law_581 ?_
        obtain ⟨c159, hf⟩ := hf
        refine p_sld (sc := sc) dL_law_582 rfl h0 c159 ?_
        refine p_aload_n dL_law_583 rfl 0 rfl ?_
        refine p_iload_n dL_law_584 rfl 3 rfl ?_
        refine p_iconst dL_law_585 (by decide) ?_
        refine p_iadd dL_law_586 ?_
        obtain ⟨c160, hf⟩ := hf
        refine p_sld (sc := sc) dL_law_587 rfl h0 c160 ?_
        refine p_if_eq (tgt := 595) (q := sc (w32 (v3 + 2)) = 0) dL_law_588 (by decide) Iff.rfl (fun hc => ?_) (fun hc => ?_)
        · replace hf := Eq.mp (if_pos hc) hf
          refine p_iconst dL_law_595 (by decide) ?_
          exact t_L_law_596 h0 hc0 ih _ _ _ _ _ _ _ hf
        · replace hf := Eq.mp (if_neg hc) hf
          refine p_iconst dL_law_591 (by decide) ?_
          refine p_goto (tgt := 596) dL_law_592 (by decide) ?_
          exact t_L_law_596 h0 hc0 ih _ _ _ _ _ _ _ hf
      replace hf := Eq.mp (if_neg hc) hf
      have hc33_11 := hc
      clear hc
      by_cases hc : (i32 (sc v3) &&& i32 31).toInt = 12
      · replace hf := Eq.mp (if_pos hc) hf
        refine p_tsIn (tgt := 626) (off := 593) dL_law_33 (by omega) (by omega) (by rw [hc]; rfl) (by decide) ?_
        refine p_aload_n dL_law_626 rfl 1 rfl ?_
        refine p_aload_n dL_law_627 rfl 0 rfl ?_
        refine p_iload_n dL_law_628 rfl 3 rfl ?_
        refine p_iconst dL_law_629 (by decide) ?_
        refine p_iadd dL_law_630 ?_
        obtain ⟨c169, hf⟩ := hf
        refine p_sld (sc := sc) dL_law_631 rfl h0 c169 ?_
        refine p_aload_n dL_law_632 rfl 0 rfl ?_
        refine p_iload_n dL_law_633 rfl 3 rfl ?_
        refine p_iconst dL_law_634 (by decide) ?_
        refine p_iadd dL_law_635 ?_
        obtain ⟨c170, hf⟩ := hf
        refine p_sld (sc := sc) dL_law_636 rfl h0 c170 ?_
        refine p_aload_n dL_law_637 rfl 0 rfl ?_
        refine p_iload_n dL_law_638 rfl 3 rfl ?_
        refine p_iconst dL_law_639 (by decide) ?_
        refine p_iadd dL_law_640 ?_
        obtain ⟨c171, hf⟩ := hf
        refine p_sld (sc := sc) dL_law_641 rfl h0 c171 ?_
        obtain ⟨c172, hf⟩ := hf
        refine p_callVi dL_law_642 M_X10_page (Or.inl rfl) [vi (sc (w32 (v3 + 1))), vi (sc (w32 (v3 + 2))), vi (sc (w32 (v3 + 3)))] (t_X10_page _ _ _ _ _ _ c172 hf) ok_X10_page rfl (c := 10) (by decide) c172 rfl tb_670 ⟨tb_671, tb_672⟩ rfl (Nat.le_of_ble_eq_true rfl) ⟨rfl, rfl⟩ ⟨by decide, by decide⟩ ⟨by show _ ≤ 600000; omega, by show _ ≤ 7302250; omega⟩ (fun r173 h174 hf => ?_)
        refine p_aload_n dL_law_645 rfl 2 rfl ?_
        refine p_aload_n dL_law_646 rfl 0 rfl ?_
        refine p_iload_n dL_law_647 rfl 3 rfl ?_
        refine p_iconst dL_law_648 (by decide) ?_
        refine p_iadd dL_law_649 ?_
        refine p_sld (sc := sc) dL_law_650 rfl h0 c169 ?_
        refine p_aload_n dL_law_651 rfl 0 rfl ?_
        refine p_iload_n dL_law_652 rfl 3 rfl ?_
        refine p_iconst dL_law_653 (by decide) ?_
        refine p_iadd dL_law_654 ?_
        refine p_sld (sc := sc) dL_law_655 rfl h0 c170 ?_
        refine p_aload_n dL_law_656 rfl 0 rfl ?_
        refine p_iload_n dL_law_657 rfl 3 rfl ?_
        refine p_iconst dL_law_658 (by decide) ?_
        refine p_iadd dL_law_659 ?_
        refine p_sld (sc := sc) dL_law_660 rfl h0 c171 ?_
        obtain ⟨c175, hf⟩ := hf
        refine p_callVi dL_law_661 M_X11_page (Or.inl rfl) [vi (sc (w32 (v3 + 1))), vi (sc (w32 (v3 + 2))), vi (sc (w32 (v3 + 3)))] (t_X11_page _ _ _ _ _ _ c175 hf) ok_X11_page rfl (c := 11) (by decide) c175 rfl tb_1252 ⟨tb_1253, tb_1254⟩ rfl (Nat.le_of_ble_eq_true rfl) ⟨rfl, rfl⟩ ⟨by decide, by decide⟩ ⟨by show _ ≤ 600000; omega, by show _ ≤ 7302250; omega⟩ (fun r176 h177 hf => ?_)
        refine p_icmp_eq (tgt := 1144) (q := r173 = r176) dL_law_664 (by decide) Iff.rfl (fun hc => ?_) (fun hc => ?_)
        · replace hf := Eq.mp (if_pos hc) hf
          refine p_widen (cells' := c0 + 20) (slots' := sq0 + 600) (by omega) (by omega) ?_
          exact t_L_law_1144 h0 hc0 ih _ _ _ _ hf
        · replace hf := Eq.mp (if_neg hc) hf
          refine p_iconst dL_law_667 (by decide) ?_
          exact p_zret dL_law_668 rfl (by omega) (by omega) (fun _ h => absurd h List.not_mem_nil) (Or.inl rfl) hf
      replace hf := Eq.mp (if_neg hc) hf
      have hc33_12 := hc
      clear hc
      by_cases hc : (i32 (sc v3) &&& i32 31).toInt = 13
      · replace hf := Eq.mp (if_pos hc) hf
        refine p_tsIn (tgt := 669) (off := 636) dL_law_33 (by omega) (by omega) (by rw [hc]; rfl) (by decide) ?_
        refine p_aload_n dL_law_669 rfl 1 rfl ?_
        refine p_aload_n dL_law_670 rfl 0 rfl ?_
        refine p_iload_n dL_law_671 rfl 3 rfl ?_
        refine p_iconst dL_law_672 (by decide) ?_
        refine p_iadd dL_law_673 ?_
        obtain ⟨c178, hf⟩ := hf
        refine p_sld (sc := sc) dL_law_674 rfl h0 c178 ?_
        refine p_aload_n dL_law_675 rfl 0 rfl ?_
        refine p_iload_n dL_law_676 rfl 3 rfl ?_
        refine p_iconst dL_law_677 (by decide) ?_
        refine p_iadd dL_law_678 ?_
        obtain ⟨c179, hf⟩ := hf
        refine p_sld (sc := sc) dL_law_679 rfl h0 c179 ?_
        refine p_aload_n dL_law_680 rfl 0 rfl ?_
        refine p_iload_n dL_law_681 rfl 3 rfl ?_
        refine p_iconst dL_law_682 (by decide) ?_
        refine p_iadd dL_law_683 ?_
        obtain ⟨c180, hf⟩ := hf
        refine p_sld (sc := sc) dL_law_684 rfl h0 c180 ?_
        obtain ⟨c181, hf⟩ := hf
        refine p_callVi dL_law_685 M_X10_sharpest (Or.inl rfl) [vi (sc (w32 (v3 + 1))), vi (sc (w32 (v3 + 2))), vi (sc (w32 (v3 + 3)))] (t_X10_sharpest _ _ _ _ _ _ c181 hf) ok_X10_sharpest rfl (c := 10) (by decide) c181 rfl tb_688 ⟨tb_689, tb_690⟩ rfl (Nat.le_of_ble_eq_true rfl) ⟨rfl, rfl⟩ ⟨by decide, by decide⟩ ⟨by show _ ≤ 600000; omega, by show _ ≤ 7302250; omega⟩ (fun r182 h183 hf => ?_)
        refine p_aload_n dL_law_688 rfl 2 rfl ?_
        refine p_aload_n dL_law_689 rfl 0 rfl ?_
        refine p_iload_n dL_law_690 rfl 3 rfl ?_
        refine p_iconst dL_law_691 (by decide) ?_
        refine p_iadd dL_law_692 ?_
        refine p_sld (sc := sc) dL_law_693 rfl h0 c178 ?_
        refine p_aload_n dL_law_694 rfl 0 rfl ?_
        refine p_iload_n dL_law_695 rfl 3 rfl ?_
        refine p_iconst dL_law_696 (by decide) ?_
        refine p_iadd dL_law_697 ?_
        refine p_sld (sc := sc) dL_law_698 rfl h0 c179 ?_
        refine p_aload_n dL_law_699 rfl 0 rfl ?_
        refine p_iload_n dL_law_700 rfl 3 rfl ?_
        refine p_iconst dL_law_701 (by decide) ?_
        refine p_iadd dL_law_702 ?_
        refine p_sld (sc := sc) dL_law_703 rfl h0 c180 ?_
        obtain ⟨c184, hf⟩ := hf
        refine p_callVi dL_law_704 M_X11_sharpest (Or.inl rfl) [vi (sc (w32 (v3 + 1))), vi (sc (w32 (v3 + 2))), vi (sc (w32 (v3 + 3)))] (t_X11_sharpest _ _ _ _ _ _ c184 hf) ok_X11_sharpest rfl (c := 11) (by decide) c184 rfl tb_1244 ⟨tb_1245, tb_1246⟩ rfl (Nat.le_of_ble_eq_true rfl) ⟨rfl, rfl⟩ ⟨by decide, by decide⟩ ⟨by show _ ≤ 600000; omega, by show _ ≤ 7302250; omega⟩ (fun r185 h186 hf => ?_)
        refine p_icmp_eq (tgt := 1144) (q := r182 = r185) dL_law_707 (by decide) Iff.rfl (fun hc => ?_) (fun hc => ?_)
        · replace hf := Eq.mp (if_pos hc) hf
          refine p_widen (cells' := c0 + 20) (slots' := sq0 + 600) (by omega) (by omega) ?_
          exact t_L_law_1144 h0 hc0 ih _ _ _ _ hf
        · replace hf := Eq.mp (if_neg hc) hf
          refine p_iconst dL_law_710 (by decide) ?_
          exact p_zret dL_law_711 rfl (by omega) (by omega) (fun _ h => absurd h List.not_mem_nil) (Or.inl rfl) hf
      replace hf := Eq.mp (if_neg hc) hf
      have hc33_13 := hc
      clear hc
      by_cases hc : (i32 (sc v3) &&& i32 31).toInt = 14
      · replace hf := Eq.mp (if_pos hc) hf
        refine p_tsIn (tgt := 712) (off := 679) dL_law_33 (by omega) (by omega) (by rw [hc]; rfl) (by decide) ?_
        refine p_aload_n dL_law_712 rfl 1 rfl ?_
        refine p_aload_n dL_law_713 rfl 0 rfl ?_
        refine p_iload_n dL_law_714 rfl 3 rfl ?_
        refine p_iconst dL_law_715 (by decide) ?_
        refine p_iadd dL_law_716 ?_
        obtain ⟨c187, hf⟩ := hf
        refine p_sld (sc := sc) dL_law_717 rfl h0 c187 ?_
        obtain ⟨c188, hf⟩ := hf
        refine p_callVi dL_law_718 M_X10_list (Or.inl rfl) [vi (sc (w32 (v3 + 1)))] (t_X10_list _ _ _ _ c188 hf) ok_X10_list rfl (c := 10) (by decide) c188 rfl tb_716 ⟨tb_717, tb_718⟩ rfl (Nat.le_of_ble_eq_true rfl) ⟨rfl, rfl⟩ ⟨by decide, by decide⟩ ⟨by show _ ≤ 600000; omega, by show _ ≤ 7302250; omega⟩ (fun r189 h190 hf => ?_)
        refine p_aload_n dL_law_721 rfl 2 rfl ?_
        refine p_aload_n dL_law_722 rfl 0 rfl ?_
        refine p_iload_n dL_law_723 rfl 3 rfl ?_
        refine p_iconst dL_law_724 (by decide) ?_
        refine p_iadd dL_law_725 ?_
        refine p_sld (sc := sc) dL_law_726 rfl h0 c187 ?_
        obtain ⟨c191, hf⟩ := hf
        refine p_callVi dL_law_727 M_X11_list (Or.inl rfl) [vi (sc (w32 (v3 + 1)))] (t_X11_list _ _ _ _ c191 hf) ok_X11_list rfl (c := 11) (by decide) c191 rfl tb_1266 ⟨tb_1267, tb_1268⟩ rfl (Nat.le_of_ble_eq_true rfl) ⟨rfl, rfl⟩ ⟨by decide, by decide⟩ ⟨by show _ ≤ 600000; omega, by show _ ≤ 7302250; omega⟩ (fun r192 h193 hf => ?_)
        refine p_icmp_eq (tgt := 1144) (q := r189 = r192) dL_law_730 (by decide) Iff.rfl (fun hc => ?_) (fun hc => ?_)
        · replace hf := Eq.mp (if_pos hc) hf
          refine p_widen (cells' := c0 + 20) (slots' := sq0 + 600) (by omega) (by omega) ?_
          exact t_L_law_1144 h0 hc0 ih _ _ _ _ hf
        · replace hf := Eq.mp (if_neg hc) hf
          refine p_iconst dL_law_733 (by decide) ?_
          exact p_zret dL_law_734 rfl (by omega) (by omega) (fun _ h => absurd h List.not_mem_nil) (Or.inl rfl) hf
      replace hf := Eq.mp (if_neg hc) hf
      have hc33_14 := hc
      clear hc
      by_cases hc : (i32 (sc v3) &&& i32 31).toInt = 15
      · replace hf := Eq.mp (if_pos hc) hf
        refine p_tsIn (tgt := 735) (off := 702) dL_law_33 (by omega) (by omega) (by rw [hc]; rfl) (by decide) ?_
        refine p_aload_n dL_law_735 rfl 1 rfl ?_
        obtain ⟨c194, hf⟩ := hf
        refine p_callVi dL_law_736 M_X10_clear (Or.inl rfl) [] (t_X10_clear _ _ _ c194 hf) ok_X10_clear rfl (c := 10) (by decide) c194 rfl tb_724 ⟨tb_725, tb_726⟩ rfl (Nat.le_of_ble_eq_true rfl) ⟨rfl, rfl⟩ ⟨by decide, by decide⟩ ⟨by show _ ≤ 600000; omega, by show _ ≤ 7302250; omega⟩ (fun r195 h196 hf => ?_)
        refine p_aload_n dL_law_739 rfl 2 rfl ?_
        obtain ⟨c197, hf⟩ := hf
        refine p_callVi dL_law_740 M_X11_clear (Or.inl rfl) [] (t_X11_clear _ _ _ c197 hf) ok_X11_clear rfl (c := 11) (by decide) c197 rfl tb_1270 ⟨tb_1271, tb_1272⟩ rfl (Nat.le_of_ble_eq_true rfl) ⟨rfl, rfl⟩ ⟨by decide, by decide⟩ ⟨by show _ ≤ 600000; omega, by show _ ≤ 7302250; omega⟩ (fun r198 h199 hf => ?_)
        refine p_icmp_eq (tgt := 1144) (q := r195 = r198) dL_law_743 (by decide) Iff.rfl (fun hc => ?_) (fun hc => ?_)
        · replace hf := Eq.mp (if_pos hc) hf
          refine p_widen (cells' := c0 + 20) (slots' := sq0 + 600) (by omega) (by omega) ?_
          exact t_L_law_1144 h0 hc0 ih _ _ _ _ hf
        · replace hf := Eq.mp (if_neg hc) hf
          refine p_iconst dL_law_746 (by decide) ?_
          exact p_zret dL_law_747 rfl (by omega) (by omega) (fun _ h => absurd h List.not_mem_nil) (Or.inl rfl) hf
      replace hf := Eq.mp (if_neg hc) hf
      have hc33_15 := hc
      clear hc
      by_cases hc : (i32 (sc v3) &&& i32 31).toInt = 16
      · replace hf := Eq.mp (if_pos hc) hf
        refine p_tsIn (tgt := 748) (off := 715) dL_law_33 (by omega) (by omega) (by rw [hc]; rfl) (by decide) ?_
        refine p_aload_n dL_law_748 rfl 1 rfl ?_
        refine p_aload_n dL_law_749 rfl 0 rfl ?_
        refine p_iload_n dL_law_750 rfl 3 rfl ?_
        refine p_iconst dL_law_751 (by decide) ?_
        refine p_iadd dL_law_752 ?_
        obtain ⟨c200, hf⟩ := hf
        refine p_sld (sc := sc) dL_law_753 rfl h0 c200 ?_
        refine p_aload_n dL_law_754 rfl 0 rfl ?_
        refine p_iload_n dL_law_755 rfl 3 rfl ?_
        refine p_iconst dL_law_756 (by decide) ?_
        refine p_iadd dL_law_757 ?_
        obtain ⟨c201, hf⟩ := hf
        refine p_sld (sc := sc) dL_law_758 rfl h0 c201 ?_
        refine p_aload_n dL_law_759 rfl 0 rfl ?_
        refine p_iload_n dL_law_760 rfl 3 rfl ?_
        refine p_iconst dL_law_761 (by decide) ?_
        refine p_iadd dL_law_762 ?_
        obtain ⟨c202, hf⟩ := hf
        refine p_sld (sc := sc) dL_law_763 rfl h0 c202 ?_
        obtain ⟨c203, hf⟩ := hf
        refine p_callVi dL_law_764 M_X10_finest (Or.inl rfl) [vi (sc (w32 (v3 + 1))), vi (sc (w32 (v3 + 2))), vi (sc (w32 (v3 + 3)))] (t_X10_finest _ _ _ _ _ _ c203 hf) ok_X10_finest rfl (c := 10) (by decide) c203 rfl tb_728 ⟨tb_729, tb_730⟩ rfl (Nat.le_of_ble_eq_true rfl) ⟨rfl, rfl⟩ ⟨by decide, by decide⟩ ⟨by show _ ≤ 600000; omega, by show _ ≤ 7302250; omega⟩ (fun r204 h205 hf => ?_)
        refine p_aload_n dL_law_767 rfl 2 rfl ?_
        refine p_aload_n dL_law_768 rfl 0 rfl ?_
        refine p_iload_n dL_law_769 rfl 3 rfl ?_
        refine p_iconst dL_law_770 (by decide) ?_
        refine p_iadd dL_law_771 ?_
        refine p_sld (sc := sc) dL_law_772 rfl h0 c200 ?_
        refine p_aload_n dL_law_773 rfl 0 rfl ?_
        refine p_iload_n dL_law_774 rfl 3 rfl ?_
        refine p_iconst dL_law_775 (by decide) ?_
        refine p_iadd dL_law_776 ?_
        refine p_sld (sc := sc) dL_law_777 rfl h0 c201 ?_
        refine p_aload_n dL_law_778 rfl 0 rfl ?_
        refine p_iload_n dL_law_779 rfl 3 rfl ?_
        refine p_iconst dL_law_780 (by decide) ?_
        refine p_iadd dL_law_781 ?_
        refine p_sld (sc := sc) dL_law_782 rfl h0 c202 ?_
        obtain ⟨c206, hf⟩ := hf
        refine p_callVi dL_law_783 M_X11_finest (Or.inl rfl) [vi (sc (w32 (v3 + 1))), vi (sc (w32 (v3 + 2))), vi (sc (w32 (v3 + 3)))] (t_X11_finest _ _ _ _ _ _ c206 hf) ok_X11_finest rfl (c := 11) (by decide) c206 rfl tb_1274 ⟨tb_1275, tb_1276⟩ rfl (Nat.le_of_ble_eq_true rfl) ⟨rfl, rfl⟩ ⟨by decide, by decide⟩ ⟨by show _ ≤ 600000; omega, by show _ ≤ 7302250; omega⟩ (fun r207 h208 hf => ?_)
        refine p_icmp_eq (tgt := 1144) (q := r204 = r207) dL_law_786 (by decide) Iff.rfl (fun hc => ?_) (fun hc => ?_)
        · replace hf := Eq.mp (if_pos hc) hf
          refine p_widen (cells' := c0 + 20) (slots' := sq0 + 600) (by omega) (by omega) ?_
          exact t_L_law_1144 h0 hc0 ih _ _ _ _ hf
        · replace hf := Eq.mp (if_neg hc) hf
          refine p_iconst dL_law_789 (by decide) ?_
          exact p_zret dL_law_790 rfl (by omega) (by omega) (fun _ h => absurd h List.not_mem_nil) (Or.inl rfl) hf
      replace hf := Eq.mp (if_neg hc) hf
      have hc33_16 := hc
      clear hc
      by_cases hc : (i32 (sc v3) &&& i32 31).toInt = 17
      · replace hf := Eq.mp (if_pos hc) hf
        refine p_tsIn (tgt := 791) (off := 758) dL_law_33 (by omega) (by omega) (by rw [hc]; rfl) (by decide) ?_
        refine p_aload_n dL_law_791 rfl 1 rfl ?_
        refine p_aload_n dL_law_792 rfl 0 rfl ?_
        refine p_iload_n dL_law_793 rfl 3 rfl ?_
        refine p_iconst dL_law_794 (by decide) ?_
        refine p_iadd dL_law_795 ?_
        obtain ⟨c209, hf⟩ := hf
        refine p_sld (sc := sc) dL_law_796 rfl h0 c209 ?_
        refine p_aload_n dL_law_797 rfl 0 rfl ?_
        refine p_iload_n dL_law_798 rfl 3 rfl ?_
        refine p_iconst dL_law_799 (by decide) ?_
        refine p_iadd dL_law_800 ?_
        obtain ⟨c210, hf⟩ := hf
        refine p_sld (sc := sc) dL_law_801 rfl h0 c210 ?_
        refine p_aload_n dL_law_802 rfl 0 rfl ?_
        refine p_iload_n dL_law_803 rfl 3 rfl ?_
        refine p_iconst dL_law_804 (by decide) ?_
        refine p_iadd dL_law_805 ?_
        obtain ⟨c211, hf⟩ := hf
        refine p_sld (sc := sc) dL_law_806 rfl h0 c211 ?_
        refine p_aload_n dL_law_807 rfl 0 rfl ?_
        refine p_iload_n dL_law_808 rfl 3 rfl ?_
        refine p_iconst dL_law_809 (by decide) ?_
        refine p_iadd dL_law_810 ?_
        obtain ⟨c212, hf⟩ := hf
        refine p_sld (sc := sc) dL_law_811 rfl h0 c212 ?_
        obtain ⟨c213, hf⟩ := hf
        refine p_callVi dL_law_812 M_X10_paper (Or.inr rfl) [vi (sc (w32 (v3 + 1))), vi (sc (w32 (v3 + 2))), vi (sc (w32 (v3 + 3))), vi (sc (w32 (v3 + 4)))] (t_X10_paper _ _ _ _ _ _ _ c213 hf) ok_X10_paper rfl (c := 10) (by decide) c213 rfl tb_740 ⟨tb_741, tb_742⟩ rfl (Nat.le_of_ble_eq_true rfl) ⟨rfl, rfl⟩ ⟨by decide, by decide⟩ ⟨by show _ ≤ 600000; omega, by show _ ≤ 7302250; omega⟩ (fun r214 h215 hf => ?_)
        refine p_aload_n dL_law_815 rfl 2 rfl ?_
        refine p_aload_n dL_law_816 rfl 0 rfl ?_
        refine p_iload_n dL_law_817 rfl 3 rfl ?_
        refine p_iconst dL_law_818 (by decide) ?_
        refine p_iadd dL_law_819 ?_
        refine p_sld (sc := sc) dL_law_820 rfl h0 c209 ?_
        refine p_aload_n dL_law_821 rfl 0 rfl ?_
        refine p_iload_n dL_law_822 rfl 3 rfl ?_
        refine p_iconst dL_law_823 (by decide) ?_
        refine p_iadd dL_law_824 ?_
        refine p_sld (sc := sc) dL_law_825 rfl h0 c210 ?_
        refine p_aload_n dL_law_826 rfl 0 rfl ?_
        refine p_iload_n dL_law_827 rfl 3 rfl ?_
        refine p_iconst dL_law_828 (by decide) ?_
        refine p_iadd dL_law_829 ?_
        refine p_sld (sc := sc) dL_law_830 rfl h0 c211 ?_
        refine p_aload_n dL_law_831 rfl 0 rfl ?_
        refine p_iload_n dL_law_832 rfl 3 rfl ?_
        refine p_iconst dL_law_833 (by decide) ?_
        refine p_iadd dL_law_834 ?_
        refine p_sld (sc := sc) dL_law_835 rfl h0 c212 ?_
        obtain ⟨c216, hf⟩ := hf
        refine p_callVi dL_law_836 M_X11_paper (Or.inr rfl) [vi (sc (w32 (v3 + 1))), vi (sc (w32 (v3 + 2))), vi (sc (w32 (v3 + 3))), vi (sc (w32 (v3 + 4)))] (t_X11_paper _ _ _ _ _ _ _ c216 hf) ok_X11_paper rfl (c := 11) (by decide) c216 rfl tb_1169 ⟨tb_1170, tb_1171⟩ rfl (Nat.le_of_ble_eq_true rfl) ⟨rfl, rfl⟩ ⟨by decide, by decide⟩ ⟨by show _ ≤ 600000; omega, by show _ ≤ 7302250; omega⟩ (fun r217 h218 hf => ?_)
        refine p_icmp_eq (tgt := 1144) (q := r214 = r217) dL_law_839 (by decide) Iff.rfl (fun hc => ?_) (fun hc => ?_)
        · replace hf := Eq.mp (if_pos hc) hf
          refine p_widen (cells' := c0 + 20) (slots' := sq0 + 600) (by omega) (by omega) ?_
          exact t_L_law_1144 h0 hc0 ih _ _ _ _ hf
        · replace hf := Eq.mp (if_neg hc) hf
          refine p_iconst dL_law_842 (by decide) ?_
          exact p_zret dL_law_843 rfl (by omega) (by omega) (fun _ h => absurd h List.not_mem_nil) (Or.inl rfl) hf
      replace hf := Eq.mp (if_neg hc) hf
      have hc33_17 := hc
      clear hc
      by_cases hc : (i32 (sc v3) &&& i32 31).toInt = 18
      · replace hf := Eq.mp (if_pos hc) hf
        refine p_tsIn (tgt := 844) (off := 811) dL_law_33 (by omega) (by omega) (by rw [hc]; rfl) (by decide) ?_
        refine p_aload_n dL_law_844 rfl 1 rfl ?_
        refine p_aload_n dL_law_845 rfl 0 rfl ?_
        refine p_iload_n dL_law_846 rfl 3 rfl ?_
        refine p_iconst dL_law_847 (by decide) ?_
        refine p_iadd dL_law_848 ?_
        obtain ⟨c219, hf⟩ := hf
        refine p_sld (sc := sc) dL_law_849 rfl h0 c219 ?_
        refine p_aload_n dL_law_850 rfl 0 rfl ?_
        refine p_iload_n dL_law_851 rfl 3 rfl ?_
        refine p_iconst dL_law_852 (by decide) ?_
        refine p_iadd dL_law_853 ?_
        obtain ⟨c220, hf⟩ := hf
        refine p_sld (sc := sc) dL_law_854 rfl h0 c220 ?_
        refine p_aload_n dL_law_855 rfl 0 rfl ?_
        refine p_iload_n dL_law_856 rfl 3 rfl ?_
        refine p_iconst dL_law_857 (by decide) ?_
        refine p_iadd dL_law_858 ?_
        obtain ⟨c221, hf⟩ := hf
        refine p_sld (sc := sc) dL_law_859 rfl h0 c221 ?_
        refine p_if_eq (tgt := 867) (q := sc (w32 (v3 + 3)) = 0) dL_law_860 (by decide) Iff.rfl (fun hc => ?_) (fun hc => ?_)
        · replace hf := Eq.mp (if_pos hc) hf
          refine p_iconst dL_law_867 (by decide) ?_
          exact t_L_law_868 h0 hc0 ih _ _ _ _ _ _ _ _ hf
        · replace hf := Eq.mp (if_neg hc) hf
          refine p_iconst dL_law_863 (by decide) ?_
          refine p_goto (tgt := 868) dL_law_864 (by decide) ?_
          exact t_L_law_868 h0 hc0 ih _ _ _ _ _ _ _ _ hf
      replace hf := Eq.mp (if_neg hc) hf
      have hc33_18 := hc
      clear hc
      by_cases hc : (i32 (sc v3) &&& i32 31).toInt = 19
      · replace hf := Eq.mp (if_pos hc) hf
        refine p_tsIn (tgt := 903) (off := 870) dL_law_33 (by omega) (by omega) (by rw [hc]; rfl) (by decide) ?_
        refine p_aload_n dL_law_903 rfl 1 rfl ?_
        refine p_aload_n dL_law_904 rfl 0 rfl ?_
        refine p_iload_n dL_law_905 rfl 3 rfl ?_
        refine p_iconst dL_law_906 (by decide) ?_
        refine p_iadd dL_law_907 ?_
        obtain ⟨c231, hf⟩ := hf
        refine p_sld (sc := sc) dL_law_908 rfl h0 c231 ?_
        obtain ⟨c232, hf⟩ := hf
        refine p_callVi dL_law_909 M_X10_go (Or.inl rfl) [vi (sc (w32 (v3 + 1)))] (t_X10_go _ _ _ _ c232 hf) ok_X10_go rfl (c := 10) (by decide) c232 rfl tb_763 ⟨tb_764, tb_765⟩ rfl (Nat.le_of_ble_eq_true rfl) ⟨rfl, rfl⟩ ⟨by decide, by decide⟩ ⟨by show _ ≤ 600000; omega, by show _ ≤ 7302250; omega⟩ (fun r233 h234 hf => ?_)
        refine p_aload_n dL_law_912 rfl 2 rfl ?_
        refine p_aload_n dL_law_913 rfl 0 rfl ?_
        refine p_iload_n dL_law_914 rfl 3 rfl ?_
        refine p_iconst dL_law_915 (by decide) ?_
        refine p_iadd dL_law_916 ?_
        refine p_sld (sc := sc) dL_law_917 rfl h0 c231 ?_
        obtain ⟨c235, hf⟩ := hf
        refine p_callVi dL_law_918 M_X11_go (Or.inl rfl) [vi (sc (w32 (v3 + 1)))] (t_X11_go _ _ _ _ c235 hf) ok_X11_go rfl (c := 11) (by decide) c235 rfl tb_1279 ⟨tb_1280, tb_1281⟩ rfl (Nat.le_of_ble_eq_true rfl) ⟨rfl, rfl⟩ ⟨by decide, by decide⟩ ⟨by show _ ≤ 600000; omega, by show _ ≤ 7302250; omega⟩ (fun r236 h237 hf => ?_)
        refine p_icmp_eq (tgt := 1144) (q := r233 = r236) dL_law_921 (by decide) Iff.rfl (fun hc => ?_) (fun hc => ?_)
        · replace hf := Eq.mp (if_pos hc) hf
          refine p_widen (cells' := c0 + 20) (slots' := sq0 + 600) (by omega) (by omega) ?_
          exact t_L_law_1144 h0 hc0 ih _ _ _ _ hf
        · replace hf := Eq.mp (if_neg hc) hf
          refine p_iconst dL_law_924 (by decide) ?_
          exact p_zret dL_law_925 rfl (by omega) (by omega) (fun _ h => absurd h List.not_mem_nil) (Or.inl rfl) hf
      replace hf := Eq.mp (if_neg hc) hf
      have hc33_19 := hc
      clear hc
      by_cases hc : (i32 (sc v3) &&& i32 31).toInt = 20
      · replace hf := Eq.mp (if_pos hc) hf
        refine p_tsIn (tgt := 926) (off := 893) dL_law_33 (by omega) (by omega) (by rw [hc]; rfl) (by decide) ?_
        refine p_aload_n dL_law_926 rfl 1 rfl ?_
        refine p_aload_n dL_law_927 rfl 0 rfl ?_
        refine p_iload_n dL_law_928 rfl 3 rfl ?_
        refine p_iconst dL_law_929 (by decide) ?_
        refine p_iadd dL_law_930 ?_
        obtain ⟨c238, hf⟩ := hf
        refine p_sld (sc := sc) dL_law_931 rfl h0 c238 ?_
        refine p_aload_n dL_law_932 rfl 0 rfl ?_
        refine p_iload_n dL_law_933 rfl 3 rfl ?_
        refine p_iconst dL_law_934 (by decide) ?_
        refine p_iadd dL_law_935 ?_
        obtain ⟨c239, hf⟩ := hf
        refine p_sld (sc := sc) dL_law_936 rfl h0 c239 ?_
        refine p_aload_n dL_law_937 rfl 0 rfl ?_
        refine p_iload_n dL_law_938 rfl 3 rfl ?_
        refine p_iconst dL_law_939 (by decide) ?_
        refine p_iadd dL_law_940 ?_
        obtain ⟨c240, hf⟩ := hf
        refine p_sld (sc := sc) dL_law_941 rfl h0 c240 ?_
        refine p_aload_n dL_law_942 rfl 0 rfl ?_
        refine p_iload_n dL_law_943 rfl 3 rfl ?_
        refine p_iconst dL_law_944 (by decide) ?_
        refine p_iadd dL_law_945 ?_
        obtain ⟨c241, hf⟩ := hf
        refine p_sld (sc := sc) dL_law_946 rfl h0 c241 ?_
        obtain ⟨c242, hf⟩ := hf
        refine p_callVi dL_law_947 M_X10_move (Or.inl rfl) [vi (sc (w32 (v3 + 1))), vi (sc (w32 (v3 + 2))), vi (sc (w32 (v3 + 3))), vi (sc (w32 (v3 + 4)))] (t_X10_move _ _ _ _ _ _ _ c242 hf) ok_X10_move rfl (c := 10) (by decide) c242 rfl tb_768 ⟨tb_769, tb_770⟩ rfl (Nat.le_of_ble_eq_true rfl) ⟨rfl, rfl⟩ ⟨by decide, by decide⟩ ⟨by show _ ≤ 600000; omega, by show _ ≤ 7302250; omega⟩ (fun r243 h244 hf => ?_)
        refine p_aload_n dL_law_950 rfl 2 rfl ?_
        refine p_aload_n dL_law_951 rfl 0 rfl ?_
        refine p_iload_n dL_law_952 rfl 3 rfl ?_
        refine p_iconst dL_law_953 (by decide) ?_
        refine p_iadd dL_law_954 ?_
        refine p_sld (sc := sc) dL_law_955 rfl h0 c238 ?_
        refine p_aload_n dL_law_956 rfl 0 rfl ?_
        refine p_iload_n dL_law_957 rfl 3 rfl ?_
        refine p_iconst dL_law_958 (by decide) ?_
        refine p_iadd dL_law_959 ?_
        refine p_sld (sc := sc) dL_law_960 rfl h0 c239 ?_
        refine p_aload_n dL_law_961 rfl 0 rfl ?_
        refine p_iload_n dL_law_962 rfl 3 rfl ?_
        refine p_iconst dL_law_963 (by decide) ?_
        refine p_iadd dL_law_964 ?_
        refine p_sld (sc := sc) dL_law_965 rfl h0 c240 ?_
        refine p_aload_n dL_law_966 rfl 0 rfl ?_
        refine p_iload_n dL_law_967 rfl 3 rfl ?_
        refine p_iconst dL_law_968 (by decide) ?_
        refine p_iadd dL_law_969 ?_
        refine p_sld (sc := sc) dL_law_970 rfl h0 c241 ?_
        obtain ⟨c245, hf⟩ := hf
        refine p_callVi dL_law_971 M_X11_move (Or.inl rfl) [vi (sc (w32 (v3 + 1))), vi (sc (w32 (v3 + 2))), vi (sc (w32 (v3 + 3))), vi (sc (w32 (v3 + 4)))] (t_X11_move _ _ _ _ _ _ _ c245 hf) ok_X11_move rfl (c := 11) (by decide) c245 rfl tb_1283 ⟨tb_1284, tb_1285⟩ rfl (Nat.le_of_ble_eq_true rfl) ⟨rfl, rfl⟩ ⟨by decide, by decide⟩ ⟨by show _ ≤ 600000; omega, by show _ ≤ 7302250; omega⟩ (fun r246 h247 hf => ?_)
        refine p_icmp_eq (tgt := 1144) (q := r243 = r246) dL_law_974 (by decide) Iff.rfl (fun hc => ?_) (fun hc => ?_)
        · replace hf := Eq.mp (if_pos hc) hf
          refine p_widen (cells' := c0 + 20) (slots' := sq0 + 600) (by omega) (by omega) ?_
          exact t_L_law_1144 h0 hc0 ih _ _ _ _ hf
        · replace hf := Eq.mp (if_neg hc) hf
          refine p_iconst dL_law_977 (by decide) ?_
          exact p_zret dL_law_978 rfl (by omega) (by omega) (fun _ h => absurd h List.not_mem_nil) (Or.inl rfl) hf
      replace hf := Eq.mp (if_neg hc) hf
      have hc33_20 := hc
      clear hc
      by_cases hc : (i32 (sc v3) &&& i32 31).toInt = 21
      · replace hf := Eq.mp (if_pos hc) hf
        refine p_tsIn (tgt := 979) (off := 946) dL_law_33 (by omega) (by omega) (by rw [hc]; rfl) (by decide) ?_
        refine p_aload_n dL_law_979 rfl 1 rfl ?_
        refine p_aload_n dL_law_980 rfl 0 rfl ?_
        refine p_iload_n dL_law_981 rfl 3 rfl ?_
        refine p_iconst dL_law_982 (by decide) ?_
        refine p_iadd dL_law_983 ?_
        obtain ⟨c248, hf⟩ := hf
        refine p_sld (sc := sc) dL_law_984 rfl h0 c248 ?_
        refine p_aload_n dL_law_985 rfl 0 rfl ?_
        refine p_iload_n dL_law_986 rfl 3 rfl ?_
        refine p_iconst dL_law_987 (by decide) ?_
        refine p_iadd dL_law_988 ?_
        obtain ⟨c249, hf⟩ := hf
        refine p_sld (sc := sc) dL_law_989 rfl h0 c249 ?_
        obtain ⟨c250, hf⟩ := hf
        refine p_callVi dL_law_990 M_X10_report (Or.inl rfl) [vi (sc (w32 (v3 + 1))), vi (sc (w32 (v3 + 2)))] (t_X10_report _ _ _ _ _ c250 hf) ok_X10_report rfl (c := 10) (by decide) c250 rfl tb_783 ⟨tb_784, tb_785⟩ rfl (Nat.le_of_ble_eq_true rfl) ⟨rfl, rfl⟩ ⟨by decide, by decide⟩ ⟨by show _ ≤ 600000; omega, by show _ ≤ 7302250; omega⟩ (fun r251 h252 hf => ?_)
        refine p_aload_n dL_law_993 rfl 2 rfl ?_
        refine p_aload_n dL_law_994 rfl 0 rfl ?_
        refine p_iload_n dL_law_995 rfl 3 rfl ?_
        refine p_iconst dL_law_996 (by decide) ?_
        refine p_iadd dL_law_997 ?_
        refine p_sld (sc := sc) dL_law_998 rfl h0 c248 ?_
        refine p_aload_n dL_law_999 rfl 0 rfl ?_
        refine p_iload_n dL_law_1000 rfl 3 rfl ?_
        refine p_iconst dL_law_1001 (by decide) ?_
        refine p_iadd dL_law_1002 ?_
        refine p_sld (sc := sc) dL_law_1003 rfl h0 c249 ?_
        obtain ⟨c253, hf⟩ := hf
        refine p_callVi dL_law_1004 M_X11_report (Or.inl rfl) [vi (sc (w32 (v3 + 1))), vi (sc (w32 (v3 + 2)))] (t_X11_report _ _ _ _ _ c253 hf) ok_X11_report rfl (c := 11) (by decide) c253 rfl tb_1289 ⟨tb_1290, tb_1291⟩ rfl (Nat.le_of_ble_eq_true rfl) ⟨rfl, rfl⟩ ⟨by decide, by decide⟩ ⟨by show _ ≤ 600000; omega, by show _ ≤ 7302250; omega⟩ (fun r254 h255 hf => ?_)
        refine p_icmp_eq (tgt := 1144) (q := r251 = r254) dL_law_1007 (by decide) Iff.rfl (fun hc => ?_) (fun hc => ?_)
        · replace hf := Eq.mp (if_pos hc) hf
          refine p_widen (cells' := c0 + 20) (slots' := sq0 + 600) (by omega) (by omega) ?_
          exact t_L_law_1144 h0 hc0 ih _ _ _ _ hf
        · replace hf := Eq.mp (if_neg hc) hf
          refine p_iconst dL_law_1010 (by decide) ?_
          exact p_zret dL_law_1011 rfl (by omega) (by omega) (fun _ h => absurd h List.not_mem_nil) (Or.inl rfl) hf
      replace hf := Eq.mp (if_neg hc) hf
      have hc33_21 := hc
      clear hc
      by_cases hc : (i32 (sc v3) &&& i32 31).toInt = 22
      · replace hf := Eq.mp (if_pos hc) hf
        refine p_tsIn (tgt := 1012) (off := 979) dL_law_33 (by omega) (by omega) (by rw [hc]; rfl) (by decide) ?_
        refine p_aload_n dL_law_1012 rfl 1 rfl ?_
        refine p_aload_n dL_law_1013 rfl 0 rfl ?_
        refine p_iload_n dL_law_1014 rfl 3 rfl ?_
        refine p_iconst dL_law_1015 (by decide) ?_
        refine p_iadd dL_law_1016 ?_
        obtain ⟨c256, hf⟩ := hf
        refine p_sld (sc := sc) dL_law_1017 rfl h0 c256 ?_
        refine p_aload_n dL_law_1018 rfl 0 rfl ?_
        refine p_iload_n dL_law_1019 rfl 3 rfl ?_
        refine p_iconst dL_law_1020 (by decide) ?_
        refine p_iadd dL_law_1021 ?_
        obtain ⟨c257, hf⟩ := hf
        refine p_sld (sc := sc) dL_law_1022 rfl h0 c257 ?_
        refine p_aload_n dL_law_1023 rfl 0 rfl ?_
        refine p_iload_n dL_law_1024 rfl 3 rfl ?_
        refine p_iconst dL_law_1025 (by decide) ?_
        refine p_iadd dL_law_1026 ?_
        obtain ⟨c258, hf⟩ := hf
        refine p_sld (sc := sc) dL_law_1027 rfl h0 c258 ?_
        obtain ⟨c259, hf⟩ := hf
        refine p_callVi dL_law_1028 M_X10_due (Or.inl rfl) [vi (sc (w32 (v3 + 1))), vi (sc (w32 (v3 + 2))), vi (sc (w32 (v3 + 3)))] (t_X10_due _ _ _ _ _ _ c259 hf) ok_X10_due rfl (c := 10) (by decide) c259 rfl tb_799 ⟨tb_800, tb_801⟩ rfl (Nat.le_of_ble_eq_true rfl) ⟨rfl, rfl⟩ ⟨by decide, by decide⟩ ⟨by show _ ≤ 600000; omega, by show _ ≤ 7302250; omega⟩ (fun r260 h261 hf => ?_)
        refine p_aload_n dL_law_1031 rfl 2 rfl ?_
        refine p_aload_n dL_law_1032 rfl 0 rfl ?_
        refine p_iload_n dL_law_1033 rfl 3 rfl ?_
        refine p_iconst dL_law_1034 (by decide) ?_
        refine p_iadd dL_law_1035 ?_
        refine p_sld (sc := sc) dL_law_1036 rfl h0 c256 ?_
        refine p_aload_n dL_law_1037 rfl 0 rfl ?_
        refine p_iload_n dL_law_1038 rfl 3 rfl ?_
        refine p_iconst dL_law_1039 (by decide) ?_
        refine p_iadd dL_law_1040 ?_
        refine p_sld (sc := sc) dL_law_1041 rfl h0 c257 ?_
        refine p_aload_n dL_law_1042 rfl 0 rfl ?_
        refine p_iload_n dL_law_1043 rfl 3 rfl ?_
        refine p_iconst dL_law_1044 (by decide) ?_
        refine p_iadd dL_law_1045 ?_
        refine p_sld (sc := sc) dL_law_1046 rfl h0 c258 ?_
        obtain ⟨c262, hf⟩ := hf
        refine p_callVi dL_law_1047 M_X11_due (Or.inl rfl) [vi (sc (w32 (v3 + 1))), vi (sc (w32 (v3 + 2))), vi (sc (w32 (v3 + 3)))] (t_X11_due _ _ _ _ _ _ c262 hf) ok_X11_due rfl (c := 11) (by decide) c262 rfl tb_1307 ⟨tb_1308, tb_1309⟩ rfl (Nat.le_of_ble_eq_true rfl) ⟨rfl, rfl⟩ ⟨by decide, by decide⟩ ⟨by show _ ≤ 600000; omega, by show _ ≤ 7302250; omega⟩ (fun r263 h264 hf => ?_)
        refine p_icmp_eq (tgt := 1144) (q := r260 = r263) dL_law_1050 (by decide) Iff.rfl (fun hc => ?_) (fun hc => ?_)
        · replace hf := Eq.mp (if_pos hc) hf
          refine p_widen (cells' := c0 + 20) (slots' := sq0 + 600) (by omega) (by omega) ?_
          exact t_L_law_1144 h0 hc0 ih _ _ _ _ hf
        · replace hf := Eq.mp (if_neg hc) hf
          refine p_iconst dL_law_1053 (by decide) ?_
          exact p_zret dL_law_1054 rfl (by omega) (by omega) (fun _ h => absurd h List.not_mem_nil) (Or.inl rfl) hf
      replace hf := Eq.mp (if_neg hc) hf
      have hc33_22 := hc
      clear hc
      by_cases hc : (i32 (sc v3) &&& i32 31).toInt = 23
      · replace hf := Eq.mp (if_pos hc) hf
        refine p_tsIn (tgt := 1055) (off := 1022) dL_law_33 (by omega) (by omega) (by rw [hc]; rfl) (by decide) ?_
        refine p_aload_n dL_law_1055 rfl 1 rfl ?_
        refine p_aload_n dL_law_1056 rfl 0 rfl ?_
        refine p_iload_n dL_law_1057 rfl 3 rfl ?_
        refine p_iconst dL_law_1058 (by decide) ?_
        refine p_iadd dL_law_1059 ?_
        obtain ⟨c265, hf⟩ := hf
        refine p_sld (sc := sc) dL_law_1060 rfl h0 c265 ?_
        obtain ⟨c266, hf⟩ := hf
        refine p_callVi dL_law_1061 M_X10_habit (Or.inl rfl) [vi (sc (w32 (v3 + 1)))] (t_X10_habit _ _ _ _ c266 hf) ok_X10_habit rfl (c := 10) (by decide) c266 rfl tb_829 ⟨tb_830, tb_831⟩ rfl (Nat.le_of_ble_eq_true rfl) ⟨rfl, rfl⟩ ⟨by decide, by decide⟩ ⟨by show _ ≤ 600000; omega, by show _ ≤ 7302250; omega⟩ (fun r267 h268 hf => ?_)
        refine p_aload_n dL_law_1064 rfl 2 rfl ?_
        refine p_aload_n dL_law_1065 rfl 0 rfl ?_
        refine p_iload_n dL_law_1066 rfl 3 rfl ?_
        refine p_iconst dL_law_1067 (by decide) ?_
        refine p_iadd dL_law_1068 ?_
        refine p_sld (sc := sc) dL_law_1069 rfl h0 c265 ?_
        obtain ⟨c269, hf⟩ := hf
        refine p_callVi dL_law_1070 M_X11_habit (Or.inl rfl) [vi (sc (w32 (v3 + 1)))] (t_X11_habit _ _ _ _ c269 hf) ok_X11_habit rfl (c := 11) (by decide) c269 rfl tb_1295 ⟨tb_1296, tb_1297⟩ rfl (Nat.le_of_ble_eq_true rfl) ⟨rfl, rfl⟩ ⟨by decide, by decide⟩ ⟨by show _ ≤ 600000; omega, by show _ ≤ 7302250; omega⟩ (fun r270 h271 hf => ?_)
        refine p_icmp_eq (tgt := 1144) (q := r267 = r270) dL_law_1073 (by decide) Iff.rfl (fun hc => ?_) (fun hc => ?_)
        · replace hf := Eq.mp (if_pos hc) hf
          refine p_widen (cells' := c0 + 20) (slots' := sq0 + 600) (by omega) (by omega) ?_
          exact t_L_law_1144 h0 hc0 ih _ _ _ _ hf
        · replace hf := Eq.mp (if_neg hc) hf
          refine p_iconst dL_law_1076 (by decide) ?_
          exact p_zret dL_law_1077 rfl (by omega) (by omega) (fun _ h => absurd h List.not_mem_nil) (Or.inl rfl) hf
      replace hf := Eq.mp (if_neg hc) hf
      have hc33_23 := hc
      clear hc
      by_cases hc : (i32 (sc v3) &&& i32 31).toInt = 24
      · replace hf := Eq.mp (if_pos hc) hf
        refine p_tsIn (tgt := 1078) (off := 1045) dL_law_33 (by omega) (by omega) (by rw [hc]; rfl) (by decide) ?_
        refine p_aload_n dL_law_1078 rfl 1 rfl ?_
        refine p_aload_n dL_law_1079 rfl 0 rfl ?_
        refine p_iload_n dL_law_1080 rfl 3 rfl ?_
        refine p_iconst dL_law_1081 (by decide) ?_
        refine p_iadd dL_law_1082 ?_
        obtain ⟨c272, hf⟩ := hf
        refine p_sld (sc := sc) dL_law_1083 rfl h0 c272 ?_
        refine p_aload_n dL_law_1084 rfl 0 rfl ?_
        refine p_iload_n dL_law_1085 rfl 3 rfl ?_
        refine p_iconst dL_law_1086 (by decide) ?_
        refine p_iadd dL_law_1087 ?_
        obtain ⟨c273, hf⟩ := hf
        refine p_sld (sc := sc) dL_law_1088 rfl h0 c273 ?_
        refine p_aload_n dL_law_1089 rfl 0 rfl ?_
        refine p_iload_n dL_law_1090 rfl 3 rfl ?_
        refine p_iconst dL_law_1091 (by decide) ?_
        refine p_iadd dL_law_1092 ?_
        obtain ⟨c274, hf⟩ := hf
        refine p_sld (sc := sc) dL_law_1093 rfl h0 c274 ?_
        obtain ⟨c275, hf⟩ := hf
        refine p_callVi dL_law_1094 M_X10_suspects (Or.inl rfl) [vi (sc (w32 (v3 + 1))), vi (sc (w32 (v3 + 2))), vi (sc (w32 (v3 + 3)))] (t_X10_suspects _ _ _ _ _ _ c275 hf) ok_X10_suspects rfl (c := 10) (by decide) c275 rfl tb_834 ⟨tb_835, tb_836⟩ rfl (Nat.le_of_ble_eq_true rfl) ⟨rfl, rfl⟩ ⟨by decide, by decide⟩ ⟨by show _ ≤ 600000; omega, by show _ ≤ 7302250; omega⟩ (fun r276 h277 hf => ?_)
        refine p_aload_n dL_law_1097 rfl 2 rfl ?_
        refine p_aload_n dL_law_1098 rfl 0 rfl ?_
        refine p_iload_n dL_law_1099 rfl 3 rfl ?_
        refine p_iconst dL_law_1100 (by decide) ?_
        refine p_iadd dL_law_1101 ?_
        refine p_sld (sc := sc) dL_law_1102 rfl h0 c272 ?_
        refine p_aload_n dL_law_1103 rfl 0 rfl ?_
        refine p_iload_n dL_law_1104 rfl 3 rfl ?_
        refine p_iconst dL_law_1105 (by decide) ?_
        refine p_iadd dL_law_1106 ?_
        refine p_sld (sc := sc) dL_law_1107 rfl h0 c273 ?_
        refine p_aload_n dL_law_1108 rfl 0 rfl ?_
        refine p_iload_n dL_law_1109 rfl 3 rfl ?_
        refine p_iconst dL_law_1110 (by decide) ?_
        refine p_iadd dL_law_1111 ?_
        refine p_sld (sc := sc) dL_law_1112 rfl h0 c274 ?_
        obtain ⟨c278, hf⟩ := hf
        refine p_callVi dL_law_1113 M_X11_suspects (Or.inl rfl) [vi (sc (w32 (v3 + 1))), vi (sc (w32 (v3 + 2))), vi (sc (w32 (v3 + 3)))] (t_X11_suspects _ _ _ _ _ _ c278 hf) ok_X11_suspects rfl (c := 11) (by decide) c278 rfl tb_1316 ⟨tb_1317, tb_1318⟩ rfl (Nat.le_of_ble_eq_true rfl) ⟨rfl, rfl⟩ ⟨by decide, by decide⟩ ⟨by show _ ≤ 600000; omega, by show _ ≤ 7302250; omega⟩ (fun r279 h280 hf => ?_)
        refine p_icmp_eq (tgt := 1144) (q := r276 = r279) dL_law_1116 (by decide) Iff.rfl (fun hc => ?_) (fun hc => ?_)
        · replace hf := Eq.mp (if_pos hc) hf
          refine p_widen (cells' := c0 + 20) (slots' := sq0 + 600) (by omega) (by omega) ?_
          exact t_L_law_1144 h0 hc0 ih _ _ _ _ hf
        · replace hf := Eq.mp (if_neg hc) hf
          refine p_iconst dL_law_1119 (by decide) ?_
          exact p_zret dL_law_1120 rfl (by omega) (by omega) (fun _ h => absurd h List.not_mem_nil) (Or.inl rfl) hf
      replace hf := Eq.mp (if_neg hc) hf
      have hc33_24 := hc
      clear hc
      by_cases hc : (i32 (sc v3) &&& i32 31).toInt = 25
      · replace hf := Eq.mp (if_pos hc) hf
        refine p_tsIn (tgt := 1121) (off := 1088) dL_law_33 (by omega) (by omega) (by rw [hc]; rfl) (by decide) ?_
        refine p_aload_n dL_law_1121 rfl 1 rfl ?_
        refine p_aload_n dL_law_1122 rfl 0 rfl ?_
        refine p_iload_n dL_law_1123 rfl 3 rfl ?_
        refine p_iconst dL_law_1124 (by decide) ?_
        refine p_iadd dL_law_1125 ?_
        obtain ⟨c281, hf⟩ := hf
        refine p_sld (sc := sc) dL_law_1126 rfl h0 c281 ?_
        obtain ⟨c282, hf⟩ := hf
        refine p_callVi dL_law_1127 M_X10_count (Or.inl rfl) [vi (sc (w32 (v3 + 1)))] (t_X10_count _ _ _ _ c282 hf) ok_X10_count rfl (c := 10) (by decide) c282 rfl tb_883 ⟨tb_884, tb_885⟩ rfl (Nat.le_of_ble_eq_true rfl) ⟨rfl, rfl⟩ ⟨by decide, by decide⟩ ⟨by show _ ≤ 600000; omega, by show _ ≤ 7302250; omega⟩ (fun r283 h284 hf => ?_)
        refine p_aload_n dL_law_1130 rfl 2 rfl ?_
        refine p_aload_n dL_law_1131 rfl 0 rfl ?_
        refine p_iload_n dL_law_1132 rfl 3 rfl ?_
        refine p_iconst dL_law_1133 (by decide) ?_
        refine p_iadd dL_law_1134 ?_
        refine p_sld (sc := sc) dL_law_1135 rfl h0 c281 ?_
        obtain ⟨c285, hf⟩ := hf
        refine p_callVi dL_law_1136 M_X11_count (Or.inl rfl) [vi (sc (w32 (v3 + 1)))] (t_X11_count _ _ _ _ c285 hf) ok_X11_count rfl (c := 11) (by decide) c285 rfl tb_1335 ⟨tb_1336, tb_1337⟩ rfl (Nat.le_of_ble_eq_true rfl) ⟨rfl, rfl⟩ ⟨by decide, by decide⟩ ⟨by show _ ≤ 600000; omega, by show _ ≤ 7302250; omega⟩ (fun r286 h287 hf => ?_)
        refine p_icmp_eq (tgt := 1144) (q := r283 = r286) dL_law_1139 (by decide) Iff.rfl (fun hc => ?_) (fun hc => ?_)
        · replace hf := Eq.mp (if_pos hc) hf
          refine p_widen (cells' := c0 + 20) (slots' := sq0 + 600) (by omega) (by omega) ?_
          exact t_L_law_1144 h0 hc0 ih _ _ _ _ hf
        · replace hf := Eq.mp (if_neg hc) hf
          refine p_iconst dL_law_1142 (by decide) ?_
          exact p_zret dL_law_1143 rfl (by omega) (by omega) (fun _ h => absurd h List.not_mem_nil) (Or.inl rfl) hf
      replace hf := Eq.mp (if_neg hc) hf
      have hc33_25 := hc
      clear hc
      refine p_tsOut (tgt := 1144) dL_law_33 (by omega) (by decide) ?_
      refine p_widen (cells' := c0 + 20) (slots' := sq0 + 600) (by omega) (by omega) ?_
      exact t_L_law_1144 h0 hc0 ih _ _ _ _ hf
def w_L_law (sb sn : Int) (sc : Int → Int) (h : Hh) (K : Int → Hh → Prop) : Prop := vb (h (-1) 0) fun z1 => hb (nw h (dfl 10)) fun h3 => 0 ≤ z1 ∧ (w_X10_init z1 h3 (fun _ h5 => (h5 z1 0 = z1 + 1) ∧ ((h5 z1 1 = z1 + 3) ∧ ((h5 z1 2 = z1 + 6) ∧ ((h5 z1 4 = z1 + 7) ∧ ((h5 z1 6 = z1 + 8) ∧ ((h5 z1 11 = z1 + 9) ∧ ((h5 z1 12 = z1 + 15) ∧ ((h5 z1 13 = z1 + 23) ∧ ((h5 z1 14 = z1 + 24) ∧ ((h5 z1 15 = z1 + 25) ∧ ((h5 z1 16 = z1 + 28) ∧ ((h (-1) 0 ≤ z1) ∧ (vb (h5 (-1) 0) fun z18 => hb (nw h5 (dfl 11)) fun h20 => 0 ≤ z18 ∧ (w_X11_init z18 h20 (fun _ h22 => (h22 z18 0 = z18 + 1) ∧ ((h22 z18 7 = z18 + 2) ∧ ((h22 z18 8 = z18 + 3) ∧ ((h22 z18 9 = z18 + 4) ∧ ((h22 z18 12 = z18 + 5) ∧ ((h22 z18 13 = z18 + 6) ∧ ((h22 z18 14 = z18 + 7) ∧ ((h22 z18 15 = z18 + 8) ∧ ((h22 z18 16 = z18 + 9) ∧ ((h22 z18 17 = z18 + 10) ∧ ((h22 z18 19 = z18 + 11) ∧ ((h22 z18 20 = z18 + 12) ∧ ((h22 z18 21 = z18 + 13) ∧ ((h22 z18 22 = z18 + 14) ∧ ((h22 z18 23 = z18 + 15) ∧ ((h22 z18 24 = z18 + 16) ∧ ((h22 z18 25 = z18 + 17) ∧ ((h22 z18 26 = z18 + 18) ∧ ((h22 z18 28 = z18 + 19) ∧ ((h22 z18 31 = z18 + 20) ∧ ((h22 z18 32 = z18 + 21) ∧ ((h22 z18 33 = z18 + 22) ∧ ((h22 z18 34 = z18 + 23) ∧ ((h22 z18 35 = z18 + 24) ∧ ((h22 z18 37 = z18 + 25) ∧ ((h22 z18 38 = z18 + 26) ∧ ((h22 z18 39 = z18 + 27) ∧ ((h22 z18 40 = z18 + 28) ∧ ((h22 z18 41 = z18 + 29) ∧ ((h22 z18 43 = z18 + 30) ∧ ((h22 z18 44 = z18 + 31) ∧ ((h22 z18 45 = z18 + 32) ∧ ((h22 z18 46 = z18 + 33) ∧ ((h22 z18 47 = z18 + 34) ∧ ((h22 z18 48 = z18 + 35) ∧ ((h22 z18 49 = z18 + 36) ∧ ((h22 z18 54 = z18 + 37) ∧ ((h22 z18 55 = z18 + 38) ∧ ((h (-1) 0 ≤ z18) ∧ (w_L_law_18 K sb sn sc NL z1 z18 0 h22)))))))))))))))))))))))))))))))))))))))))))))))))))))))
set_option maxRecDepth 100000 in
set_option maxHeartbeats 4000000 in
theorem t_L_law {G : Gx} {sb sn : Int} {sc : Int → Int} (h0 : sc = scr G) (h : Hh) (K : Int → Hh → Prop) (hf : w_L_law sb sn sc h K) : PW G M_L_law rm_L_law 600000 7302250 [] (h (-1) 0) K 0 [(0, vr 200 sb sn)] [] [] 0 0 h := by
  unfold w_L_law at hf
  replace hf := vb_e hf
  generalize q2 : h (-1) 0 = z1 at hf
  refine p_new (c := 10) (z := z1) dL_law_0 (by decide) tb_16 tb_17 tb_1 q2 ⟨by decide, by decide⟩ ?_
  replace hf := hb_e hf
  generalize nw h (dfl 10) = h3 at hf ⊢
  refine p_norm (kn' := []) (cells' := 1) (slots' := 17) rfl rfl rfl ?_
  refine p_dup dL_law_3 (fun _ q => by cases q) ?_
  obtain ⟨c4, hf⟩ := hf
  refine p_callIv (c := 10) dL_law_4 M_X10_init rfl [] (t_X10_init _ _ _ c4 hf) ok_X10_init rfl (by decide) c4 rfl tb_18 rfl tb_19 rfl (Nat.le_of_ble_eq_true rfl) ⟨rfl, rfl⟩ ⟨by decide, by decide⟩ ⟨by decide, by decide⟩ (fun _ h5 hf => ?_)
  refine p_norm (kn' := [vr 8 (z1 + 1) 0, vr 5 (z1 + 3) 0, vr 103 (z1 + 6) 6, vr 104 (z1 + 7) 6, vr 100 (z1 + 8) 4, vr 1 (z1 + 9) 0, vr 6 (z1 + 15) 0, vr 101 (z1 + 23) 4, vr 9 (z1 + 24) 0, vr 3 (z1 + 25) 0, vr 2 (z1 + 28) 0]) (cells' := 33) (slots' := 1308) rfl rfl rfl ?_
  obtain ⟨c6, hf⟩ := hf
  obtain ⟨c7, hf⟩ := hf
  obtain ⟨c8, hf⟩ := hf
  obtain ⟨c9, hf⟩ := hf
  obtain ⟨c10, hf⟩ := hf
  obtain ⟨c11, hf⟩ := hf
  obtain ⟨c12, hf⟩ := hf
  obtain ⟨c13, hf⟩ := hf
  obtain ⟨c14, hf⟩ := hf
  obtain ⟨c15, hf⟩ := hf
  obtain ⟨c16, hf⟩ := hf
  obtain ⟨c17, hf⟩ := hf
  refine p_seal (c := 10) (by decide) c4 c17 (show ∀ y ∈ ([(0, 1, 8, 0), (1, 3, 5, 0), (2, 6, 103, 6), (4, 7, 104, 6), (6, 8, 100, 4), (11, 9, 1, 0), (12, 15, 6, 0), (13, 23, 101, 4), (14, 24, 9, 0), (15, 25, 3, 0), (16, 28, 2, 0)] : List (Nat × Nat × Kd)), _ from List.forall_mem_cons.mpr ⟨⟨c6, List.mem_of_getElem? (i := 0) rfl⟩, List.forall_mem_cons.mpr ⟨⟨c7, List.mem_of_getElem? (i := 1) rfl⟩, List.forall_mem_cons.mpr ⟨⟨c8, List.mem_of_getElem? (i := 2) rfl⟩, List.forall_mem_cons.mpr ⟨⟨c9, List.mem_of_getElem? (i := 3) rfl⟩, List.forall_mem_cons.mpr ⟨⟨c10, List.mem_of_getElem? (i := 4) rfl⟩, List.forall_mem_cons.mpr ⟨⟨c11, List.mem_of_getElem? (i := 5) rfl⟩, List.forall_mem_cons.mpr ⟨⟨c12, List.mem_of_getElem? (i := 6) rfl⟩, List.forall_mem_cons.mpr ⟨⟨c13, List.mem_of_getElem? (i := 7) rfl⟩, List.forall_mem_cons.mpr ⟨⟨c14, List.mem_of_getElem? (i := 8) rfl⟩, List.forall_mem_cons.mpr ⟨⟨c15, List.mem_of_getElem? (i := 9) rfl⟩, List.forall_mem_cons.mpr ⟨⟨c16, List.mem_of_getElem? (i := 10) rfl⟩, fun _ h => absurd h List.not_mem_nil⟩⟩⟩⟩⟩⟩⟩⟩⟩⟩⟩) (List.forall_mem_cons.mpr ⟨Or.inr (Or.inl (by decide)), fun _ h => absurd h List.not_mem_nil⟩) (fun _ h => absurd h List.not_mem_nil) (List.forall_mem_cons.mpr ⟨Or.inl (by decide), List.forall_mem_cons.mpr ⟨Or.inl (by decide), List.forall_mem_cons.mpr ⟨Or.inr (Or.inl (by decide)), List.forall_mem_cons.mpr ⟨Or.inr (Or.inl (by decide)), List.forall_mem_cons.mpr ⟨Or.inr (Or.inl (by decide)), List.forall_mem_cons.mpr ⟨Or.inl (by decide), List.forall_mem_cons.mpr ⟨Or.inl (by decide), List.forall_mem_cons.mpr ⟨Or.inr (Or.inl (by decide)), List.forall_mem_cons.mpr ⟨Or.inl (by decide), List.forall_mem_cons.mpr ⟨Or.inl (by decide), List.forall_mem_cons.mpr ⟨Or.inl (by decide), fun _ h => absurd h List.not_mem_nil⟩⟩⟩⟩⟩⟩⟩⟩⟩⟩⟩) ?_
  refine p_astore_n (ls' := [(1, vr 10 z1 0), (0, vr 200 sb sn)]) dL_law_7 rfl (by decide) rfl ?_
  replace hf := vb_e hf
  generalize q19 : h5 (-1) 0 = z18 at hf
  refine p_new (c := 11) (z := z18) dL_law_8 (by decide) tb_887 tb_888 tb_9 q19 ⟨by decide, by decide⟩ ?_
  replace hf := hb_e hf
  generalize nw h5 (dfl 11) = h20 at hf ⊢
  refine p_norm (kn' := [vr 10 z1 0, vr 8 (z1 + 1) 0, vr 5 (z1 + 3) 0, vr 103 (z1 + 6) 6, vr 104 (z1 + 7) 6, vr 100 (z1 + 8) 4, vr 1 (z1 + 9) 0, vr 6 (z1 + 15) 0, vr 101 (z1 + 23) 4, vr 9 (z1 + 24) 0, vr 3 (z1 + 25) 0, vr 2 (z1 + 28) 0]) (cells' := 34) (slots' := 1367) rfl rfl rfl ?_
  refine p_dup dL_law_11 (fun _ q => by cases q) ?_
  obtain ⟨c21, hf⟩ := hf
  refine p_callIv (c := 11) dL_law_12 M_X11_init rfl [] (t_X11_init _ _ _ c21 hf) ok_X11_init rfl (by decide) c21 rfl tb_889 rfl tb_890 rfl (Nat.le_of_ble_eq_true rfl) ⟨rfl, rfl⟩ ⟨by decide, by decide⟩ ⟨by decide, by decide⟩ (fun _ h22 hf => ?_)
  refine p_norm (kn' := [vr 102 (z18 + 1) 120, vr 100 (z18 + 2) 5, vr 100 (z18 + 3) 5, vr 100 (z18 + 4) 5, vr 100 (z18 + 5) 6, vr 100 (z18 + 6) 6, vr 100 (z18 + 7) 30, vr 100 (z18 + 8) 30, vr 100 (z18 + 9) 30, vr 100 (z18 + 10) 1200, vr 100 (z18 + 11) 6, vr 100 (z18 + 12) 24, vr 100 (z18 + 13) 6, vr 100 (z18 + 14) 18, vr 100 (z18 + 15) 18, vr 100 (z18 + 16) 6, vr 100 (z18 + 17) 6, vr 100 (z18 + 18) 6, vr 100 (z18 + 19) 4, vr 100 (z18 + 20) 40, vr 100 (z18 + 21) 40, vr 100 (z18 + 22) 40, vr 100 (z18 + 23) 40, vr 100 (z18 + 24) 40, vr 100 (z18 + 25) 60, vr 100 (z18 + 26) 60, vr 100 (z18 + 27) 240, vr 100 (z18 + 28) 60, vr 100 (z18 + 29) 60, vr 100 (z18 + 30) 4, vr 100 (z18 + 31) 4, vr 101 (z18 + 32) 3, vr 101 (z18 + 33) 3, vr 101 (z18 + 34) 3, vr 101 (z18 + 35) 3, vr 100 (z18 + 36) 4, vr 100 (z18 + 37) 60, vr 100 (z18 + 38) 12, vr 10 z1 0, vr 8 (z1 + 1) 0, vr 5 (z1 + 3) 0, vr 103 (z1 + 6) 6, vr 104 (z1 + 7) 6, vr 100 (z1 + 8) 4, vr 1 (z1 + 9) 0, vr 6 (z1 + 15) 0, vr 101 (z1 + 23) 4, vr 9 (z1 + 24) 0, vr 3 (z1 + 25) 0, vr 2 (z1 + 28) 0]) (cells' := 72) (slots' := 3674) rfl rfl rfl ?_
  obtain ⟨c23, hf⟩ := hf
  obtain ⟨c24, hf⟩ := hf
  obtain ⟨c25, hf⟩ := hf
  obtain ⟨c26, hf⟩ := hf
  obtain ⟨c27, hf⟩ := hf
  obtain ⟨c28, hf⟩ := hf
  obtain ⟨c29, hf⟩ := hf
  obtain ⟨c30, hf⟩ := hf
  obtain ⟨c31, hf⟩ := hf
  obtain ⟨c32, hf⟩ := hf
  obtain ⟨c33, hf⟩ := hf
  obtain ⟨c34, hf⟩ := hf
  obtain ⟨c35, hf⟩ := hf
  obtain ⟨c36, hf⟩ := hf
  obtain ⟨c37, hf⟩ := hf
  obtain ⟨c38, hf⟩ := hf
  obtain ⟨c39, hf⟩ := hf
  obtain ⟨c40, hf⟩ := hf
  obtain ⟨c41, hf⟩ := hf
  obtain ⟨c42, hf⟩ := hf
  obtain ⟨c43, hf⟩ := hf
  obtain ⟨c44, hf⟩ := hf
  obtain ⟨c45, hf⟩ := hf
  obtain ⟨c46, hf⟩ := hf
  obtain ⟨c47, hf⟩ := hf
  obtain ⟨c48, hf⟩ := hf
  obtain ⟨c49, hf⟩ := hf
  obtain ⟨c50, hf⟩ := hf
  obtain ⟨c51, hf⟩ := hf
  obtain ⟨c52, hf⟩ := hf
  obtain ⟨c53, hf⟩ := hf
  obtain ⟨c54, hf⟩ := hf
  obtain ⟨c55, hf⟩ := hf
  obtain ⟨c56, hf⟩ := hf
  obtain ⟨c57, hf⟩ := hf
  obtain ⟨c58, hf⟩ := hf
  obtain ⟨c59, hf⟩ := hf
  obtain ⟨c60, hf⟩ := hf
  obtain ⟨c61, hf⟩ := hf
  refine p_seal (c := 11) (by decide) c21 c61 (show ∀ y ∈ ([(0, 1, 102, 120), (7, 2, 100, 5), (8, 3, 100, 5), (9, 4, 100, 5), (12, 5, 100, 6), (13, 6, 100, 6), (14, 7, 100, 30), (15, 8, 100, 30), (16, 9, 100, 30), (17, 10, 100, 1200), (19, 11, 100, 6), (20, 12, 100, 24), (21, 13, 100, 6), (22, 14, 100, 18), (23, 15, 100, 18), (24, 16, 100, 6), (25, 17, 100, 6), (26, 18, 100, 6), (28, 19, 100, 4), (31, 20, 100, 40), (32, 21, 100, 40), (33, 22, 100, 40), (34, 23, 100, 40), (35, 24, 100, 40), (37, 25, 100, 60), (38, 26, 100, 60), (39, 27, 100, 240), (40, 28, 100, 60), (41, 29, 100, 60), (43, 30, 100, 4), (44, 31, 100, 4), (45, 32, 101, 3), (46, 33, 101, 3), (47, 34, 101, 3), (48, 35, 101, 3), (49, 36, 100, 4), (54, 37, 100, 60), (55, 38, 100, 12)] : List (Nat × Nat × Kd)), _ from List.forall_mem_cons.mpr ⟨⟨c23, List.mem_of_getElem? (i := 0) rfl⟩, List.forall_mem_cons.mpr ⟨⟨c24, List.mem_of_getElem? (i := 1) rfl⟩, List.forall_mem_cons.mpr ⟨⟨c25, List.mem_of_getElem? (i := 2) rfl⟩, List.forall_mem_cons.mpr ⟨⟨c26, List.mem_of_getElem? (i := 3) rfl⟩, List.forall_mem_cons.mpr ⟨⟨c27, List.mem_of_getElem? (i := 4) rfl⟩, List.forall_mem_cons.mpr ⟨⟨c28, List.mem_of_getElem? (i := 5) rfl⟩, List.forall_mem_cons.mpr ⟨⟨c29, List.mem_of_getElem? (i := 6) rfl⟩, List.forall_mem_cons.mpr ⟨⟨c30, List.mem_of_getElem? (i := 7) rfl⟩, List.forall_mem_cons.mpr ⟨⟨c31, List.mem_of_getElem? (i := 8) rfl⟩, List.forall_mem_cons.mpr ⟨⟨c32, List.mem_of_getElem? (i := 9) rfl⟩, List.forall_mem_cons.mpr ⟨⟨c33, List.mem_of_getElem? (i := 10) rfl⟩, List.forall_mem_cons.mpr ⟨⟨c34, List.mem_of_getElem? (i := 11) rfl⟩, List.forall_mem_cons.mpr ⟨⟨c35, List.mem_of_getElem? (i := 12) rfl⟩, List.forall_mem_cons.mpr ⟨⟨c36, List.mem_of_getElem? (i := 13) rfl⟩, List.forall_mem_cons.mpr ⟨⟨c37, List.mem_of_getElem? (i := 14) rfl⟩, List.forall_mem_cons.mpr ⟨⟨c38, List.mem_of_getElem? (i := 15) rfl⟩, List.forall_mem_cons.mpr ⟨⟨c39, List.mem_of_getElem? (i := 16) rfl⟩, List.forall_mem_cons.mpr ⟨⟨c40, List.mem_of_getElem? (i := 17) rfl⟩, List.forall_mem_cons.mpr ⟨⟨c41, List.mem_of_getElem? (i := 18) rfl⟩, List.forall_mem_cons.mpr ⟨⟨c42, List.mem_of_getElem? (i := 19) rfl⟩, List.forall_mem_cons.mpr ⟨⟨c43, List.mem_of_getElem? (i := 20) rfl⟩, List.forall_mem_cons.mpr ⟨⟨c44, List.mem_of_getElem? (i := 21) rfl⟩, List.forall_mem_cons.mpr ⟨⟨c45, List.mem_of_getElem? (i := 22) rfl⟩, List.forall_mem_cons.mpr ⟨⟨c46, List.mem_of_getElem? (i := 23) rfl⟩, List.forall_mem_cons.mpr ⟨⟨c47, List.mem_of_getElem? (i := 24) rfl⟩, List.forall_mem_cons.mpr ⟨⟨c48, List.mem_of_getElem? (i := 25) rfl⟩, List.forall_mem_cons.mpr ⟨⟨c49, List.mem_of_getElem? (i := 26) rfl⟩, List.forall_mem_cons.mpr ⟨⟨c50, List.mem_of_getElem? (i := 27) rfl⟩, List.forall_mem_cons.mpr ⟨⟨c51, List.mem_of_getElem? (i := 28) rfl⟩, List.forall_mem_cons.mpr ⟨⟨c52, List.mem_of_getElem? (i := 29) rfl⟩, List.forall_mem_cons.mpr ⟨⟨c53, List.mem_of_getElem? (i := 30) rfl⟩, List.forall_mem_cons.mpr ⟨⟨c54, List.mem_of_getElem? (i := 31) rfl⟩, List.forall_mem_cons.mpr ⟨⟨c55, List.mem_of_getElem? (i := 32) rfl⟩, List.forall_mem_cons.mpr ⟨⟨c56, List.mem_of_getElem? (i := 33) rfl⟩, List.forall_mem_cons.mpr ⟨⟨c57, List.mem_of_getElem? (i := 34) rfl⟩, List.forall_mem_cons.mpr ⟨⟨c58, List.mem_of_getElem? (i := 35) rfl⟩, List.forall_mem_cons.mpr ⟨⟨c59, List.mem_of_getElem? (i := 36) rfl⟩, List.forall_mem_cons.mpr ⟨⟨c60, List.mem_of_getElem? (i := 37) rfl⟩, fun _ h => absurd h List.not_mem_nil⟩⟩⟩⟩⟩⟩⟩⟩⟩⟩⟩⟩⟩⟩⟩⟩⟩⟩⟩⟩⟩⟩⟩⟩⟩⟩⟩⟩⟩⟩⟩⟩⟩⟩⟩⟩⟩⟩) (List.forall_mem_cons.mpr ⟨Or.inl (by decide), List.forall_mem_cons.mpr ⟨Or.inr (Or.inl (by decide)), fun _ h => absurd h List.not_mem_nil⟩⟩) (fun _ h => absurd h List.not_mem_nil) (List.forall_mem_cons.mpr ⟨Or.inr (Or.inl (by decide)), List.forall_mem_cons.mpr ⟨Or.inr (Or.inl (by decide)), List.forall_mem_cons.mpr ⟨Or.inr (Or.inl (by decide)), List.forall_mem_cons.mpr ⟨Or.inr (Or.inl (by decide)), List.forall_mem_cons.mpr ⟨Or.inr (Or.inl (by decide)), List.forall_mem_cons.mpr ⟨Or.inr (Or.inl (by decide)), List.forall_mem_cons.mpr ⟨Or.inr (Or.inl (by decide)), List.forall_mem_cons.mpr ⟨Or.inr (Or.inl (by decide)), List.forall_mem_cons.mpr ⟨Or.inr (Or.inl (by decide)), List.forall_mem_cons.mpr ⟨Or.inr (Or.inl (by decide)), List.forall_mem_cons.mpr ⟨Or.inr (Or.inl (by decide)), List.forall_mem_cons.mpr ⟨Or.inr (Or.inl (by decide)), List.forall_mem_cons.mpr ⟨Or.inr (Or.inl (by decide)), List.forall_mem_cons.mpr ⟨Or.inr (Or.inl (by decide)), List.forall_mem_cons.mpr ⟨Or.inr (Or.inl (by decide)), List.forall_mem_cons.mpr ⟨Or.inr (Or.inl (by decide)), List.forall_mem_cons.mpr ⟨Or.inr (Or.inl (by decide)), List.forall_mem_cons.mpr ⟨Or.inr (Or.inl (by decide)), List.forall_mem_cons.mpr ⟨Or.inr (Or.inl (by decide)), List.forall_mem_cons.mpr ⟨Or.inr (Or.inl (by decide)), List.forall_mem_cons.mpr ⟨Or.inr (Or.inl (by decide)), List.forall_mem_cons.mpr ⟨Or.inr (Or.inl (by decide)), List.forall_mem_cons.mpr ⟨Or.inr (Or.inl (by decide)), List.forall_mem_cons.mpr ⟨Or.inr (Or.inl (by decide)), List.forall_mem_cons.mpr ⟨Or.inr (Or.inl (by decide)), List.forall_mem_cons.mpr ⟨Or.inr (Or.inl (by decide)), List.forall_mem_cons.mpr ⟨Or.inr (Or.inl (by decide)), List.forall_mem_cons.mpr ⟨Or.inr (Or.inl (by decide)), List.forall_mem_cons.mpr ⟨Or.inr (Or.inl (by decide)), List.forall_mem_cons.mpr ⟨Or.inr (Or.inl (by decide)), List.forall_mem_cons.mpr ⟨Or.inr (Or.inl (by decide)), List.forall_mem_cons.mpr ⟨Or.inr (Or.inl (by decide)), List.forall_mem_cons.mpr ⟨Or.inr (Or.inl (by decide)), List.forall_mem_cons.mpr ⟨Or.inr (Or.inl (by decide)), List.forall_mem_cons.mpr ⟨Or.inr (Or.inl (by decide)), List.forall_mem_cons.mpr ⟨Or.inr (Or.inl (by decide)), List.forall_mem_cons.mpr ⟨Or.inr (Or.inl (by decide)), List.forall_mem_cons.mpr ⟨Or.inr (Or.inl (by decide)), List.forall_mem_cons.mpr ⟨Or.inl (by decide), List.forall_mem_cons.mpr ⟨Or.inl (by decide), List.forall_mem_cons.mpr ⟨Or.inl (by decide), List.forall_mem_cons.mpr ⟨Or.inr (Or.inl (by decide)), List.forall_mem_cons.mpr ⟨Or.inr (Or.inl (by decide)), List.forall_mem_cons.mpr ⟨Or.inr (Or.inl (by decide)), List.forall_mem_cons.mpr ⟨Or.inl (by decide), List.forall_mem_cons.mpr ⟨Or.inl (by decide), List.forall_mem_cons.mpr ⟨Or.inr (Or.inl (by decide)), List.forall_mem_cons.mpr ⟨Or.inl (by decide), List.forall_mem_cons.mpr ⟨Or.inl (by decide), List.forall_mem_cons.mpr ⟨Or.inl (by decide), fun _ h => absurd h List.not_mem_nil⟩⟩⟩⟩⟩⟩⟩⟩⟩⟩⟩⟩⟩⟩⟩⟩⟩⟩⟩⟩⟩⟩⟩⟩⟩⟩⟩⟩⟩⟩⟩⟩⟩⟩⟩⟩⟩⟩⟩⟩⟩⟩⟩⟩⟩⟩⟩⟩⟩⟩) ?_
  refine p_astore_n (ls' := [(2, vr 11 z18 0), (1, vr 10 z1 0), (0, vr 200 sb sn)]) dL_law_15 rfl (by decide) rfl ?_
  refine p_iconst dL_law_16 (by decide) ?_
  refine p_istore_n (ls' := [(3, vi 0), (2, vr 11 z18 0), (1, vr 10 z1 0), (0, vr 200 sb sn)]) dL_law_17 rfl (by decide) rfl ?_
  refine p_sub (ls' := [(0, vr 200 sb sn), (1, vr 10 z1 0), (2, vr 11 z18 0), (3, vi 0)]) [3, 2, 1, 0] rfl ?_
  refine p_drop ?_
  refine p_widen (cells' := cfl NL) (slots' := sfl NL) (by decide) (by decide) ?_
  exact t_L_law_18 h0 NL (Nat.le_refl _) _ _ _ _ hf
