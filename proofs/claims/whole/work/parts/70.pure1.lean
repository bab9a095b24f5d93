/-! PURE 1: leaves: bounds, floors, the nearest -/
theorem e_in (x a b : Int) (h : Hh) (K : Int → Hh → Prop) : w_X11_in x a b h K = K (if a ≤ x ∧ x ≤ b then 1 else 0) h := by
  simp only [w_X11_in, w_X11_in_17, w_X11_in_18]
  by_cases h1 : x < a
  · rw [if_pos h1, if_neg (show ¬ (a ≤ x ∧ x ≤ b) by omega)]; simp
  · by_cases h2 : x > b
    · rw [if_neg h1, if_pos h2, if_neg (show ¬ (a ≤ x ∧ x ≤ b) by omega)]; simp
    · rw [if_neg h1, if_neg h2, if_pos (show a ≤ x ∧ x ≤ b by omega)]; simp
theorem fl_un {x y q : Int} (hy : 0 < y) (h1 : y * q ≤ x) (h2 : x < y * q + y) : x / y = q := by
  apply Int.le_antisymm
  · apply Int.le_of_lt_add_one
    apply Int.ediv_lt_of_lt_mul hy
    rw [Int.add_mul, Int.one_mul, Int.mul_comm]; exact h2
  · apply Int.le_ediv_of_mul_le hy
    rw [Int.mul_comm]; exact h1
theorem fl_lo (x : Int) {y : Int} (hy : 0 < y) : y * (x / y) ≤ x ∧ x < y * (x / y) + y := by
  have h1 := Int.mul_ediv_add_emod x y
  have h2 := Int.emod_nonneg x (show y ≠ 0 by omega)
  have h3 := Int.emod_lt_of_pos x hy
  omega
theorem td_pos {x y : Int} (hx : 0 ≤ x) (hy : 0 < y) : Int.tdiv x y = x / y := Int.tdiv_eq_ediv_of_nonneg hx
theorem td_neg {x y : Int} (hx : x < 0) (hy : 0 < y) : Int.tdiv x y = -((-x) / y) := by
  rw [show x = -(-x) by omega, Int.neg_tdiv, td_pos (by omega) hy, Int.neg_neg]
theorem ed_range {x y B : Int} (hy : 0 < y) (h1 : -B ≤ x) (h2 : x ≤ B) : -B ≤ x / y ∧ x / y ≤ B := by
  have h := fl_lo x hy
  have hB : 0 ≤ B := by omega
  constructor
  · apply Int.le_ediv_of_mul_le hy
    have : B * 1 ≤ B * y := Int.mul_le_mul_of_nonneg_left (by omega) hB
    rw [Int.neg_mul]; omega
  · by_cases h0 : 0 ≤ x
    · have := Int.ediv_le_self y h0
      omega
    · have : x / y < 0 := Int.ediv_neg_of_neg_of_pos (by omega) hy
      omega
theorem xor_sign {x y : Int} (hx : r64 x) (hy : r64 y) (hy0 : 0 < y) : (i64 x ^^^ i64 y).toInt ≥ 0 ↔ 0 ≤ x := by
  have e1 : (i64 x).toBitVec.msb = decide (x < 0) := by
    rw [BitVec.msb_eq_toInt]
    show decide ((i64 x).toInt < 0) = _
    rw [i64_toInt hx]
  have e2 : (i64 y).toBitVec.msb = decide (y < 0) := by
    rw [BitVec.msb_eq_toInt]
    show decide ((i64 y).toInt < 0) = _
    rw [i64_toInt hy]
  have e3 : ((i64 x).toBitVec ^^^ (i64 y).toBitVec).msb = decide ((i64 x ^^^ i64 y).toInt < 0) := by
    rw [BitVec.msb_eq_toInt]
    rfl
  rw [BitVec.msb_xor, e1, e2, show decide (y < 0) = false by simp; omega] at e3
  simp at e3
  constructor
  · intro h
    apply Classical.byContradiction
    intro h2
    have := e3.mp (by omega)
    omega
  · intro h
    apply Classical.byContradiction
    intro h2
    have := e3.mpr (by omega)
    omega
/-- Math.floorDiv -/
theorem e_fdiv {x y : Int} (hx : -4611686018427387904 ≤ x ∧ x ≤ 4611686018427387904) (hy : 0 < y) (hy2 : y ≤ 4611686018427387904) (h : Hh) (K : Int → Hh → Prop) : w_J9_floorDiv_f86c9 x y h K = K (x / y) h := by
  simp only [w_J9_floorDiv_f86c9, w_J9_floorDiv_f86c9_27, vb]
  have hr := ed_range hy hx.1 hx.2
  have hf := fl_lo x hy
  simp only [xor_sign (x := x) (y := y) ⟨by omega, by omega⟩ ⟨by omega, by omega⟩ hy]
  by_cases h0 : 0 ≤ x
  · rw [if_pos h0, td_pos h0 hy, w64_id (by omega) (by omega)]
    simp; omega
  · have hr2 := ed_range (x := -x) (B := 4611686018427387904) hy (by omega) (by omega)
    have hf2 := fl_lo (-x) hy
    rw [if_neg h0, td_neg (by omega) hy, w64_id (z := -(-x / y)) (by omega) (by omega)]
    have em : -(-x / y) * y = -(y * (-x / y)) := by rw [Int.neg_mul, Int.mul_comm]
    rw [em, w64_id (z := -(y * (-x / y))) (by omega) (by omega)]
    by_cases h1 : -(y * (-x / y)) = x
    · rw [if_pos h1, show x / y = -(-x / y) from fl_un hy (by rw [Int.mul_neg]; omega) (by rw [Int.mul_neg]; omega)]
      simp; omega
    · rw [if_neg h1, w64_id (by omega) (by omega), show x / y = -(-x / y) - 1 from fl_un hy (by rw [Int.mul_sub, Int.mul_neg]; omega) (by rw [Int.mul_sub, Int.mul_neg]; omega)]
      simp; omega
/-- NEAREST, the class's -/
theorem e_nearC {a b : Int} (ha : -1000000000000000000 ≤ a ∧ a ≤ 1000000000000000000) (hb : 0 < b) (hb2 : b ≤ 1000000000000000000) (h : Hh) (K : Int → Hh → Prop) : w_X10_nearest a b h K = K ((2 * a + b) / (2 * b)) h := by
  unfold w_X10_nearest
  rw [if_pos hb, w64_id (z := 2 * a) (by omega) (by omega), w64_id (z := 2 * a + b) (by omega) (by omega), w64_id (z := 2 * b) (by omega) (by omega), e_fdiv ⟨by omega, by omega⟩ (by omega) (by omega)]
/-- floor, the reference's -/
theorem e_floorM {x y : Int} (hx : -4611686018427387904 ≤ x ∧ x ≤ 4611686018427387904) (hy : 0 < y) (hy2 : y ≤ 2305843009213693952) (h : Hh) (K : Int → Hh → Prop) : w_X11_floor x y h K = K (x / y) h := by
  simp only [w_X11_floor, w_X11_floor_21]
  have hr := ed_range hy hx.1 hx.2
  have hf := fl_lo x hy
  by_cases h0 : x < 0
  · rw [if_pos h0, w64_id (z := -x) (by omega) (by omega), w64_id (z := -x + y) (by omega) (by omega), w64_id (z := -x + y - 1) (by omega) (by omega), td_pos (by omega) hy]
    have hr2 := ed_range (x := -x + y - 1) (B := 6917529027641081856) hy (by omega) (by omega)
    have hf2 := fl_lo (-x + y - 1) hy
    rw [w64_id (z := (-x + y - 1) / y) (by omega) (by omega), w64_id (by omega) (by omega), show x / y = -((-x + y - 1) / y) from fl_un hy (by rw [Int.mul_neg]; omega) (by rw [Int.mul_neg]; omega)]
    simp; omega
  · rw [if_neg h0, td_pos (by omega) hy, w64_id (by omega) (by omega)]
    simp; omega
theorem e_nearM {a b : Int} (ha : -1000000000000000000 ≤ a ∧ a ≤ 1000000000000000000) (hb : 0 < b) (hb2 : b ≤ 1000000000000000000) (h : Hh) (K : Int → Hh → Prop) : w_X11_nearest a b h K = K ((2 * a + b) / (2 * b)) h := by
  unfold w_X11_nearest
  rw [w64_id (z := 2 * a) (by omega) (by omega), w64_id (z := 2 * a + b) (by omega) (by omega), w64_id (z := 2 * b) (by omega) (by omega), e_floorM ⟨by omega, by omega⟩ (by omega) (by omega)]
