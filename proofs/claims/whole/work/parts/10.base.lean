/-! THE PURE MACHINE, part 1: numbers, pure heaps, the judgement PW -/
abbrev Hh : Type := Int → Int → Int
/-- a pure value: an int, a long, or a reference: its kind, its cell (-1: null), its length -/
abbrev PV : Type := Int ⊕ (Int ⊕ (Nat × Int × Int))
abbrev vi (x : Int) : PV := Sum.inl x
abbrev vl (x : Int) : PV := Sum.inr (Sum.inl x)
abbrev vr (t : Nat) (a n : Int) : PV := Sum.inr (Sum.inr (t, a, n))
def w32 (z : Int) : Int := (z + 2147483648) % 4294967296 - 2147483648
def w64 (z : Int) : Int := (z + 9223372036854775808) % 18446744073709551616 - 9223372036854775808
abbrev i32 (x : Int) : Int32 := Int32.ofInt x
abbrev i64 (x : Int) : Int64 := Int64.ofInt x
def r32 (x : Int) : Prop := -2147483648 ≤ x ∧ x < 2147483648
def r64 (x : Int) : Prop := -9223372036854775808 ≤ x ∧ x < 9223372036854775808
theorem w32_r (z : Int) : r32 (w32 z) := by unfold r32 w32; omega
theorem w64_r (z : Int) : r64 (w64 z) := by unfold r64 w64; omega
theorem w32_id {z : Int} (h1 : -2147483648 ≤ z) (h2 : z < 2147483648) : w32 z = z := by unfold w32; omega
theorem w64_id {z : Int} (h1 : -9223372036854775808 ≤ z) (h2 : z < 9223372036854775808) : w64 z = z := by unfold w64; omega
theorem i32_toInt {x : Int} (h : r32 x) : (i32 x).toInt = x := by
  show (Int32.ofInt x).toInt = x
  rw [Int32.toInt_ofInt]
  show Int.bmod x 4294967296 = x
  exact Int.bmod_eq_of_le (by have := h.1; omega) (by have := h.2; omega)
theorem i64_toInt {x : Int} (h : r64 x) : (i64 x).toInt = x := by
  show (Int64.ofInt x).toInt = x
  rw [Int64.toInt_ofInt]
  show Int.bmod x 18446744073709551616 = x
  exact Int.bmod_eq_of_le (by have := h.1; omega) (by have := h.2; omega)
theorem toInt_r32 (x : Int32) : r32 x.toInt := by
  have h1 := Int32.le_toInt x
  have h2 := Int32.toInt_lt x
  unfold r32
  omega
theorem toInt_r64 (x : Int64) : r64 x.toInt := by
  have h1 := Int64.le_toInt x
  have h2 := Int64.toInt_lt x
  unfold r64
  omega
theorem i32_of (x : Int32) : i32 x.toInt = x := Int32.ofInt_toInt x
theorem i64_of (x : Int64) : i64 x.toInt = x := Int64.ofInt_toInt x
theorem i32_w (z : Int) : i32 (w32 z) = i32 z := by
  apply Int32.toInt_inj.mp
  show (Int32.ofInt (w32 z)).toInt = (Int32.ofInt z).toInt
  rw [Int32.toInt_ofInt, Int32.toInt_ofInt]
  show Int.bmod (w32 z) 4294967296 = Int.bmod z 4294967296
  rw [Int.bmod_def, Int.bmod_def]
  unfold w32
  split <;> split <;> omega
theorem i64_w (z : Int) : i64 (w64 z) = i64 z := by
  apply Int64.toInt_inj.mp
  show (Int64.ofInt (w64 z)).toInt = (Int64.ofInt z).toInt
  rw [Int64.toInt_ofInt, Int64.toInt_ofInt]
  show Int.bmod (w64 z) 18446744073709551616 = Int.bmod z 18446744073709551616
  rw [Int.bmod_def, Int.bmod_def]
  unfold w64
  split <;> split <;> omega
theorem i32_add (x y : Int) : i32 x + i32 y = i32 (w32 (x + y)) := by rw [i32_w]; exact (Int32.ofInt_add x y).symm
theorem i32_sub (x y : Int) : i32 x - i32 y = i32 (w32 (x - y)) := by rw [i32_w]; exact (Int32.ofInt_sub x y).symm
theorem i32_mul (x y : Int) : i32 x * i32 y = i32 (w32 (x * y)) := by rw [i32_w]; exact (Int32.ofInt_mul x y).symm
theorem i32_neg (x : Int) : - i32 x = i32 (w32 (-x)) := by rw [i32_w]; exact (Int32.ofInt_neg x).symm
theorem i64_add (x y : Int) : i64 x + i64 y = i64 (w64 (x + y)) := by rw [i64_w]; exact (Int64.ofInt_add x y).symm
theorem i64_sub (x y : Int) : i64 x - i64 y = i64 (w64 (x - y)) := by rw [i64_w]; exact (Int64.ofInt_sub x y).symm
theorem i64_mul (x y : Int) : i64 x * i64 y = i64 (w64 (x * y)) := by rw [i64_w]; exact (Int64.ofInt_mul x y).symm
theorem i64_neg (x : Int) : - i64 x = i64 (w64 (-x)) := by rw [i64_w]; exact (Int64.ofInt_neg x).symm
theorem i32_inj {x y : Int} (hx : r32 x) (hy : r32 y) : i32 x = i32 y ↔ x = y := by
  refine ⟨fun h => ?_, fun h => by rw [h]⟩
  have := congrArg Int32.toInt h
  rwa [i32_toInt hx, i32_toInt hy] at this
theorem i64_inj {x y : Int} (hx : r64 x) (hy : r64 y) : i64 x = i64 y ↔ x = y := by
  refine ⟨fun h => ?_, fun h => by rw [h]⟩
  have := congrArg Int64.toInt h
  rwa [i64_toInt hx, i64_toInt hy] at this
theorem i32_lt {x y : Int} (hx : r32 x) (hy : r32 y) : i32 x < i32 y ↔ x < y := by
  rw [Int32.lt_iff_toInt_lt, i32_toInt hx, i32_toInt hy]
theorem i32_le {x y : Int} (hx : r32 x) (hy : r32 y) : i32 x ≤ i32 y ↔ x ≤ y := by
  rw [Int32.le_iff_toInt_le, i32_toInt hx, i32_toInt hy]
theorem i64_lt {x y : Int} (hx : r64 x) (hy : r64 y) : i64 x < i64 y ↔ x < y := by
  rw [Int64.lt_iff_toInt_lt, i64_toInt hx, i64_toInt hy]
theorem i64_le {x y : Int} (hx : r64 x) (hy : r64 y) : i64 x ≤ i64 y ↔ x ≤ y := by
  rw [Int64.le_iff_toInt_le, i64_toInt hx, i64_toInt hy]
theorem i32_div {x y : Int} (hx : r32 x) (hy : r32 y) : i32 x / i32 y = i32 (w32 (x.tdiv y)) := by
  rw [i32_w]
  apply Int32.toInt_inj.mp
  rw [Int32.toInt_div, i32_toInt hx, i32_toInt hy]
  exact Int32.toInt_ofInt.symm
theorem i64_div {x y : Int} (hx : r64 x) (hy : r64 y) : i64 x / i64 y = i64 (w64 (x.tdiv y)) := by
  rw [i64_w]
  apply Int64.toInt_inj.mp
  rw [Int64.toInt_div, i64_toInt hx, i64_toInt hy]
  exact Int64.toInt_ofInt.symm
theorem i32_rem {x y : Int} (hx : r32 x) (hy : r32 y) : i32 x - i32 x / i32 y * i32 y = i32 (x.tmod y) := by
  rw [i32_div hx hy, i32_w, i32_mul, i32_w, i32_sub, i32_w, Int.tmod_def, Int.mul_comm]
theorem i32_l (x : Int) (hx : r32 x) : (i32 x).toInt64 = i64 x := by
  apply Int64.toInt_inj.mp
  rw [Int32.toInt_toInt64, i32_toInt hx, i64_toInt ⟨by have := hx.1; omega, by have := hx.2; omega⟩]
theorem i64_i (x : Int) : (i64 x).toInt32 = i32 (w32 x) := by
  rw [i32_w]
  exact Int64.toInt32_ofInt
