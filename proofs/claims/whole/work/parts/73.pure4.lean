/-! PURE 4: small methods as equations (general rule: w = K answer heap) -/
theorem e_minI (x y : Int) (h : Hh) (K : Int → Hh → Prop) : w_J9_min_7cf53 x y h K = K (if x > y then y else x) h := by
  simp only [w_J9_min_7cf53, w_J9_min_7cf53_10]; split <;> rfl
theorem e_maxI (x y : Int) (h : Hh) (K : Int → Hh → Prop) : w_J9_max_7cf53 x y h K = K (if x < y then y else x) h := by
  simp only [w_J9_max_7cf53, w_J9_max_7cf53_10]; split <;> rfl
theorem e_minL (x y : Int) (h : Hh) (K : Int → Hh → Prop) : w_J9_min_f86c9 x y h K = K (if x > y then y else x) h := by
  simp only [w_J9_min_f86c9, w_J9_min_f86c9_11]; split <;> rfl
theorem e_maxL (x y : Int) (h : Hh) (K : Int → Hh → Prop) : w_J9_max_f86c9 x y h K = K (if x < y then y else x) h := by
  simp only [w_J9_max_f86c9, w_J9_max_f86c9_11]; split <;> rfl
theorem e_absI {x : Int} (hx : -2147483648 < x ∧ x < 2147483648) (h : Hh) (K : Int → Hh → Prop) : w_J9_abs_0f7a4 x h K = K (if 0 ≤ x then x else -x) h := by
  simp only [w_J9_abs_0f7a4, w_J9_abs_0f7a4_10]
  by_cases h0 : x ≥ 0
  · rw [if_pos h0, if_pos h0]
  · rw [if_neg h0, if_neg h0, w32_id (by omega) (by omega)]
theorem e_isEye (x : Int) (h : Hh) (K : Int → Hh → Prop) : w_X10_isEye x h K = K (if 0 ≤ x ∧ x ≤ 50 then 1 else 0) h := by
  simp only [w_X10_isEye, w_X10_isEye_14, w_X10_isEye_15]
  by_cases h1 : x < 0
  · rw [if_pos h1, if_neg (show ¬ (0 ≤ x ∧ x ≤ 50) by omega)]; simp
  · by_cases h2 : x > 50
    · rw [if_neg h1, if_pos h2, if_neg (show ¬ (0 ≤ x ∧ x ≤ 50) by omega)]; simp
    · rw [if_neg h1, if_neg h2, if_pos (show 0 ≤ x ∧ x ≤ 50 by omega)]; simp
theorem e_isReader (x : Int) (h : Hh) (K : Int → Hh → Prop) : w_X10_isReader x h K = K (if 0 ≤ x ∧ x ≤ 7 then 1 else 0) h := by
  simp only [w_X10_isReader, w_X10_isReader_14, w_X10_isReader_15]
  by_cases h1 : x < 0
  · rw [if_pos h1, if_neg (show ¬ (0 ≤ x ∧ x ≤ 7) by omega)]; simp
  · by_cases h2 : x > 7
    · rw [if_neg h1, if_pos h2, if_neg (show ¬ (0 ≤ x ∧ x ≤ 7) by omega)]; simp
    · rw [if_neg h1, if_neg h2, if_pos (show 0 ≤ x ∧ x ≤ 7 by omega)]; simp
theorem e_isBound (x : Int) (h : Hh) (K : Int → Hh → Prop) : w_X10_isBound x h K = K (if 0 ≤ x ∧ x ≤ 20 then 1 else 0) h := by
  simp only [w_X10_isBound, w_X10_isBound_14, w_X10_isBound_15]
  by_cases h1 : x < 0
  · rw [if_pos h1, if_neg (show ¬ (0 ≤ x ∧ x ≤ 20) by omega)]; simp
  · by_cases h2 : x > 20
    · rw [if_neg h1, if_pos h2, if_neg (show ¬ (0 ≤ x ∧ x ≤ 20) by omega)]; simp
    · rw [if_neg h1, if_neg h2, if_pos (show 0 ≤ x ∧ x ≤ 20 by omega)]; simp
theorem e_isSwelling (x : Int) (h : Hh) (K : Int → Hh → Prop) : w_X10_isSwelling x h K = K (if -50 ≤ x ∧ x ≤ 50 then 1 else 0) h := by
  simp only [w_X10_isSwelling, w_X10_isSwelling_16, w_X10_isSwelling_17]
  by_cases h1 : x < -50
  · rw [if_pos h1, if_neg (show ¬ (-50 ≤ x ∧ x ≤ 50) by omega)]; simp
  · by_cases h2 : x > 50
    · rw [if_neg h1, if_pos h2, if_neg (show ¬ (-50 ≤ x ∧ x ≤ 50) by omega)]; simp
    · rw [if_neg h1, if_neg h2, if_pos (show -50 ≤ x ∧ x ≤ 50 by omega)]; simp
theorem e_ruleAt {a0 n : Int} {h : Hh} (hn : h a0 3 ≤ 6) (K : Int → Hh → Prop) : w_X10_ruleAt a0 n h K = K (if 0 ≤ n ∧ n < h a0 3 then h (a0 + 6) n else -1) h := by
  simp only [w_X10_ruleAt, w_X10_ruleAt_21, w_X10_ruleAt_22]
  by_cases h1 : n < 0
  · rw [if_pos h1, if_neg (show ¬ (0 ≤ n ∧ n < h a0 3) by omega)]
  · by_cases h2 : n ≥ h a0 3
    · rw [if_neg h1, if_pos h2, if_neg (show ¬ (0 ≤ n ∧ n < h a0 3) by omega)]
    · rw [if_neg h1, if_neg h2, if_pos (show 0 ≤ n ∧ n < h a0 3 by omega)]; simp; omega
theorem e_chartAt {a0 n : Int} {h : Hh} (hn : h a0 5 ≤ 6) (K : Int → Hh → Prop) : w_X10_chartAt a0 n h K = K (if 0 ≤ n ∧ n < h a0 5 then h (a0 + 7) n else -1) h := by
  simp only [w_X10_chartAt, w_X10_chartAt_21, w_X10_chartAt_22]
  by_cases h1 : n < 0
  · rw [if_pos h1, if_neg (show ¬ (0 ≤ n ∧ n < h a0 5) by omega)]
  · by_cases h2 : n ≥ h a0 5
    · rw [if_neg h1, if_pos h2, if_neg (show ¬ (0 ≤ n ∧ n < h a0 5) by omega)]
    · rw [if_neg h1, if_neg h2, if_pos (show 0 ≤ n ∧ n < h a0 5 by omega)]; simp; omega
theorem e_isChart {a0 c : Int} {h : Hh} (hn : 0 ≤ h a0 18 ∧ h a0 18 ≤ 6) (K : Int → Hh → Prop) : w_X11_isChart a0 c h K = K (if 0 ≤ c ∧ c < h a0 18 then 1 else 0) h := by
  unfold w_X11_isChart
  rw [e_in, w32_id (by omega) (by omega)]
  by_cases h1 : 0 ≤ c ∧ c < h a0 18
  · rw [if_pos (show 0 ≤ c ∧ c ≤ h a0 18 - 1 by omega), if_pos h1]; simp
  · rw [if_neg (show ¬ (0 ≤ c ∧ c ≤ h a0 18 - 1) by omega), if_neg h1]; simp
/-- go, both -/
theorem go_C {a0 n : Int} {h : Hh} (hn : 0 ≤ h a0 8 ∧ h a0 8 ≤ 300) (K : Int → Hh → Prop) : w_X10_go a0 n h K = if 0 ≤ n ∧ n ≤ 50 then K (if h a0 8 + n > 300 then 300 else h a0 8 + n) (up h a0 8 (if h a0 8 + n > 300 then 300 else h a0 8 + n)) else K (-1) h := by
  simp only [w_X10_go, w_X10_go_10, hb, e_minI]
  by_cases h1 : n < 0
  · rw [if_pos h1, if_neg (show ¬ (0 ≤ n ∧ n ≤ 50) by omega)]
  · by_cases h2 : n ≤ 50
    · rw [if_neg h1, if_pos h2, if_pos (show 0 ≤ n ∧ n ≤ 50 by omega), w32_id (by omega) (by omega), up_at, if_pos rfl]
    · rw [if_neg h1, if_neg h2, if_neg (show ¬ (0 ≤ n ∧ n ≤ 50) by omega)]
theorem go_M {a0 n : Int} {h : Hh} (ha : 0 ≤ a0) (hn : 0 ≤ h a0 29 ∧ h a0 29 ≤ 300) (K : Int → Hh → Prop) : w_X11_go a0 n h K = if 0 ≤ n ∧ n ≤ 50 then K (if h a0 29 + n > 300 then 300 else h a0 29 + n) (up h a0 29 (if h a0 29 + n > 300 then 300 else h a0 29 + n)) else K (-1) h := by
  simp only [w_X11_go, w_X11_go_39, hb, e_in]
  by_cases h1 : 0 ≤ n ∧ n ≤ 50
  · rw [if_pos h1, if_pos h1, if_pos (by decide), w32_id (by omega) (by omega), up_at, if_pos rfl, up_at, if_pos rfl]
    by_cases h2 : h a0 29 + n ≤ 300
    · rw [if_pos h2, if_neg (show ¬ h a0 29 + n > 300 by omega)]; simp [ha]
    · rw [if_neg h2, if_pos (show h a0 29 + n > 300 by omega)]; simp [ha]
  · rw [if_neg h1, if_neg h1, if_neg (by decide)]
theorem clear_C (a0 : Int) (h : Hh) (K : Int → Hh → Prop) : w_X10_clear a0 h K = K (h a0 7) (up h a0 7 0) := rfl
theorem clear_M (a0 : Int) (h : Hh) (K : Int → Hh → Prop) : w_X11_clear a0 h K = K (h a0 42) (up h a0 42 0) := rfl
