/-! PURE 43: bits turned round; counts -/
def rvb : Nat → Nat → Nat
  | 0, _ => 0
  | d + 1, x => (x.testBit d).toNat + 2 * rvb d x
theorem bn (b : Bool) : b.toNat = 0 ∨ b.toNat = 1 := by
  cases b
  · exact Or.inl rfl
  · exact Or.inr rfl
theorem bt0 (b : Bool) (r : Nat) : decide ((b.toNat + 2 * r) % 2 = 1) = b := by
  cases b
  · exact decide_eq_false (by show ¬ ((0 + 2 * r) % 2 = 1); omega)
  · exact decide_eq_true (by show (1 + 2 * r) % 2 = 1; omega)
theorem bt1 (b : Bool) (r : Nat) : (b.toNat + 2 * r) / 2 = r := by
  have := bn b
  omega
theorem rv_lt (x : Nat) : ∀ d, rvb d x < 2 ^ d := by
  intro d
  induction d with
  | zero => exact Nat.one_pos
  | succ d ih =>
    show (x.testBit d).toNat + 2 * rvb d x < 2 ^ (d + 1)
    rw [Nat.pow_succ]
    have := bn (x.testBit d)
    omega
theorem rv_bit (x : Nat) : ∀ d i, (rvb d x).testBit i = (decide (i < d) && x.testBit (d - 1 - i)) := by
  intro d
  induction d with
  | zero =>
    intro i
    show (0 : Nat).testBit i = _
    rw [Nat.zero_testBit, decide_eq_false (by omega), Bool.false_and]
  | succ d ih =>
    intro i
    show ((x.testBit d).toNat + 2 * rvb d x).testBit i = _
    cases i with
    | zero =>
      rw [Nat.testBit_zero, bt0, decide_eq_true (by omega : 0 < d + 1), Bool.true_and]
      rfl
    | succ i =>
      rw [Nat.testBit_add_one, bt1, ih i, show d + 1 - 1 - (i + 1) = d - 1 - i by omega]
      congr 1
      exact decide_eq_decide.mpr (by omega)
theorem rv_rv {x d : Nat} (h : x < 2 ^ d) : rvb d (rvb d x) = x := by
  apply Nat.eq_of_testBit_eq
  intro i
  rw [rv_bit, rv_bit]
  by_cases hi : i < d
  · rw [decide_eq_true hi, Bool.true_and, decide_eq_true (by omega : d - 1 - i < d), Bool.true_and]
    congr 1
    omega
  · rw [decide_eq_false hi, Bool.false_and]
    exact (Nat.testBit_lt_two_pow (Nat.lt_of_lt_of_le h (Nat.pow_le_pow_right (by omega) (by omega)))).symm
theorem rv_low {x y : Nat} : ∀ d, (∀ j, j < d → x.testBit j = y.testBit j) → rvb d x = rvb d y := by
  intro d
  induction d with
  | zero => intro _; rfl
  | succ d ih =>
    intro h
    show (x.testBit d).toNat + 2 * rvb d x = (y.testBit d).toNat + 2 * rvb d y
    rw [h d (by omega), ih (fun j hj => h j (by omega))]
/-- the lowest bit that differs is x's -/
def lwd (x y j : Nat) : Prop := x.testBit j = true ∧ y.testBit j = false ∧ ∀ i, i < j → x.testBit i = y.testBit i
theorem rv_ord {x y j : Nat} (h : lwd x y j) : ∀ d, j < d → rvb d y < rvb d x := by
  intro d
  induction d with
  | zero => intro w; omega
  | succ d ih =>
    intro w
    show (y.testBit d).toNat + 2 * rvb d y < (x.testBit d).toNat + 2 * rvb d x
    by_cases e : j = d
    · have := rv_low d (fun i hi => h.2.2 i (by omega))
      rw [← e, h.1, h.2.1, e, this]
      show 0 + 2 * rvb d y < 1 + 2 * rvb d y
      omega
    · have := ih (by omega)
      have b1 := bn (x.testBit d)
      have b2 := bn (y.testBit d)
      omega
def pcs : Nat → Nat → Nat
  | 0, _ => 0
  | k + 1, x => pcs k x + (x.testBit k).toNat
theorem pcs_sh (b : Bool) (r : Nat) : ∀ k, pcs (k + 1) (b.toNat + 2 * r) = b.toNat + pcs k r := by
  intro k
  induction k with
  | zero =>
    show 0 + ((b.toNat + 2 * r).testBit 0).toNat = b.toNat + 0
    rw [Nat.testBit_zero, bt0]
    omega
  | succ k ih =>
    show pcs (k + 1) (b.toNat + 2 * r) + ((b.toNat + 2 * r).testBit (k + 1)).toNat = b.toNat + (pcs k r + (r.testBit k).toNat)
    rw [ih, Nat.testBit_add_one, bt1]
    omega
theorem pcs_rv (x : Nat) : ∀ d, pcs d (rvb d x) = pcs d x := by
  intro d
  induction d with
  | zero => rfl
  | succ d ih =>
    show pcs (d + 1) ((x.testBit d).toNat + 2 * rvb d x) = pcs d x + (x.testBit d).toNat
    rw [pcs_sh, ih]
    omega
theorem pcs_hi {x d : Nat} (h : x < 2 ^ d) : ∀ k, pcs (d + k) x = pcs d x := by
  intro k
  induction k with
  | zero => rfl
  | succ k ih =>
    show pcs (d + k) x + (x.testBit (d + k)).toNat = _
    rw [Nat.testBit_lt_two_pow (Nat.lt_of_lt_of_le h (Nat.pow_le_pow_right (by omega) (by omega))), ih]
    rfl
theorem pcs_le (x : Nat) : ∀ k, pcs k x ≤ k := by
  intro k
  induction k with
  | zero => exact Nat.le_refl _
  | succ k ih =>
    have := bn (x.testBit k)
    show pcs k x + (x.testBit k).toNat ≤ k + 1
    omega
theorem pc_d {x d : Nat} (h : x < 2 ^ d) (hd : d ≤ 12) : pcs 12 x = pcs d x := by
  have e : 12 = d + (12 - d) := by omega
  rw [e, pcs_hi h]
theorem pc_rv {x d : Nat} (h : x < 2 ^ d) (hd : d ≤ 12) : pcs 12 (rvb d x) = pcs 12 x := by
  rw [pc_d h hd, pc_d (rv_lt x d) hd, pcs_rv]
theorem pc_le {x d : Nat} (h : x < 2 ^ d) (hd : d ≤ 12) : pcs 12 x ≤ d := by
  rw [pc_d h hd]; exact pcs_le x d
/-- how many below k -/
def cnt (P : Nat → Bool) : Nat → Nat
  | 0 => 0
  | k + 1 => cnt P k + (P k).toNat
theorem cnt_cong {P Q : Nat → Bool} : ∀ k, (∀ i, i < k → P i = Q i) → cnt P k = cnt Q k := by
  intro k
  induction k with
  | zero => intro _; rfl
  | succ k ih =>
    intro h
    show cnt P k + (P k).toNat = cnt Q k + (Q k).toNat
    rw [ih (fun i hi => h i (by omega)), h k (by omega)]
theorem cnt_zero {P : Nat → Bool} : ∀ k, (∀ i, i < k → P i = false) → cnt P k = 0 := by
  intro k
  induction k with
  | zero => intro _; rfl
  | succ k ih =>
    intro h
    show cnt P k + (P k).toNat = 0
    rw [ih (fun i hi => h i (by omega)), h k (by omega)]
    rfl
theorem cnt_add (P : Nat → Bool) (a : Nat) : ∀ b, cnt P (a + b) = cnt P a + cnt (fun i => P (a + i)) b := by
  intro b
  induction b with
  | zero => rfl
  | succ b ih =>
    show cnt P (a + b) + (P (a + b)).toNat = cnt P a + (cnt (fun i => P (a + i)) b + (P (a + b)).toNat)
    rw [ih]
    omega
theorem cnt_two (P : Nat → Bool) : ∀ n, cnt P (2 * n) = cnt (fun i => P (0 + 2 * i)) n + cnt (fun i => P (1 + 2 * i)) n := by
  intro n
  induction n with
  | zero => rfl
  | succ n ih =>
    show cnt P (2 * n) + (P (2 * n)).toNat + (P (2 * n + 1)).toNat = cnt (fun i => P (0 + 2 * i)) n + (P (0 + 2 * n)).toNat + (cnt (fun i => P (1 + 2 * i)) n + (P (1 + 2 * n)).toNat)
    rw [ih, show 0 + 2 * n = 2 * n by omega, show 1 + 2 * n = 2 * n + 1 by omega]
    omega
theorem cnt_rv : ∀ (d : Nat) (P : Nat → Bool), cnt (fun x => P (rvb d x)) (2 ^ d) = cnt P (2 ^ d) := by
  intro d
  induction d with
  | zero => intro P; rfl
  | succ d ih =>
    intro P
    rw [Nat.pow_succ, Nat.mul_comm, cnt_two P, ← ih (fun i => P (0 + 2 * i)), ← ih (fun i => P (1 + 2 * i)), show 2 * 2 ^ d = 2 ^ d + 2 ^ d by omega, cnt_add]
    congr 1
    · refine cnt_cong _ (fun i hi => ?_)
      show P ((i.testBit d).toNat + 2 * rvb d i) = P (0 + 2 * rvb d i)
      rw [Nat.testBit_lt_two_pow hi]
      rfl
    · refine cnt_cong _ (fun i hi => ?_)
      show P (((2 ^ d + i).testBit d).toNat + 2 * rvb d (2 ^ d + i)) = P (1 + 2 * rvb d i)
      rw [Nat.testBit_two_pow_add_eq, Nat.testBit_lt_two_pow hi, rv_low (x := 2 ^ d + i) (y := i) d (fun j hj => Nat.testBit_two_pow_add_gt hj i)]
      rfl
theorem cnt_front (R : Nat → Bool) (k : Nat) : ∀ n, cnt (fun i => R (k + i)) (n + 1) = (R k).toNat + cnt (fun i => R (k + 1 + i)) n := by
  intro n
  induction n with
  | zero => show 0 + (R (k + 0)).toNat = (R k).toNat + 0; rw [Nat.add_zero]; omega
  | succ n ih =>
    show cnt (fun i => R (k + i)) (n + 1) + (R (k + (n + 1))).toNat = (R k).toNat + (cnt (fun i => R (k + 1 + i)) n + (R (k + 1 + n)).toNat)
    rw [ih, show k + (n + 1) = k + 1 + n by omega]
    omega
/-- Java's bits of small numbers -/
theorem i32N (a : Nat) : (i32 (a : Int)).toBitVec = BitVec.ofNat 32 a := BitVec.ofInt_natCast 32 a
theorem andN (a b : Nat) : i32 (a : Int) &&& i32 (b : Int) = i32 ((a &&& b : Nat) : Int) := by
  apply Int32.toBitVec_inj.mp
  show (i32 (a : Int)).toBitVec &&& (i32 (b : Int)).toBitVec = _
  rw [i32N, i32N, i32N, BitVec.ofNat_and]
theorem orN (a b : Nat) : i32 (a : Int) ||| i32 (b : Int) = i32 ((a ||| b : Nat) : Int) := by
  apply Int32.toBitVec_inj.mp
  show (i32 (a : Int)).toBitVec ||| (i32 (b : Int)).toBitVec = _
  rw [i32N, i32N, i32N, BitVec.ofNat_or]
theorem xorN (a b : Nat) : i32 (a : Int) ^^^ i32 (b : Int) = i32 ((a ^^^ b : Nat) : Int) := by
  apply Int32.toBitVec_inj.mp
  show (i32 (a : Int)).toBitVec ^^^ (i32 (b : Int)).toBitVec = _
  rw [i32N, i32N, i32N, BitVec.ofNat_xor]
theorem p12 : (2 : Nat) ^ 12 = 4096 := rfl
theorem andI {a b : Nat} (ha : a < 4096) : (i32 (a : Int) &&& i32 (b : Int)).toInt = ((a &&& b : Nat) : Int) := by
  have := Nat.and_le_left (n := a) (m := b)
  rw [andN]; exact i32_toInt ⟨by omega, by omega⟩
theorem orI {a b : Nat} (ha : a < 4096) (hb : b < 4096) : (i32 (a : Int) ||| i32 (b : Int)).toInt = ((a ||| b : Nat) : Int) := by
  have : a ||| b < 2 ^ 12 := Nat.or_lt_two_pow ha hb
  rw [p12] at this
  rw [orN]; exact i32_toInt ⟨by omega, by omega⟩
theorem xorI {a b : Nat} (ha : a < 4096) (hb : b < 4096) : (i32 (a : Int) ^^^ i32 (b : Int)).toInt = ((a ^^^ b : Nat) : Int) := by
  have : a ^^^ b < 2 ^ 12 := Nat.xor_lt_two_pow ha hb
  rw [p12] at this
  rw [xorN]; exact i32_toInt ⟨by omega, by omega⟩
theorem sp64 {P : Nat → Prop} (h : ∀ a, a < 64 → ∀ b, b < 64 → P (64 * a + b)) {x : Nat} (hx : x < 4096) : P x := by
  have e : x = 64 * (x / 64) + x % 64 := by omega
  rw [e]
  exact h _ (by omega) _ (by omega)
theorem btvN0 : ∀ a, a < 64 → ∀ b, b < 64 → ∀ z, z < 12 → btv ((64 * a + b : Nat) : Int) (z : Nat) = (((64 * a + b).testBit z).toNat : Int) := by decide +kernel
theorem btvN {x z : Nat} (hx : x < 4096) (hz : z < 12) : btv (x : Int) (z : Int) = ((x.testBit z).toNat : Int) := sp64 (P := fun x => ∀ z, z < 12 → btv (x : Int) (z : Nat) = ((x.testBit z).toNat : Int)) btvN0 hx z hz
def bcv (x0 : Int) : Int :=
  let z1 := w32 (x0 - ((i32 (((i32 x0).toUInt32 >>> ((i32 1).toUInt32 &&& Int32.toUInt32 31)).toInt32.toInt) &&& i32 1431655765).toInt))
  let z2 := w32 (((i32 z1 &&& i32 858993459).toInt) + ((i32 (((i32 z1).toUInt32 >>> ((i32 2).toUInt32 &&& Int32.toUInt32 31)).toInt32.toInt) &&& i32 858993459).toInt))
  let z3 := (i32 (w32 (z2 + (((i32 z2).toUInt32 >>> ((i32 4).toUInt32 &&& Int32.toUInt32 31)).toInt32.toInt))) &&& i32 252645135).toInt
  let z4 := w32 (z3 + (((i32 z3).toUInt32 >>> ((i32 8).toUInt32 &&& Int32.toUInt32 31)).toInt32.toInt))
  let z5 := w32 (z4 + (((i32 z4).toUInt32 >>> ((i32 16).toUInt32 &&& Int32.toUInt32 31)).toInt32.toInt))
  (i32 z5 &&& i32 63).toInt
theorem bcv0 : ∀ a, a < 64 → ∀ b, b < 64 → bcv ((64 * a + b : Nat) : Int) = (pcs 12 (64 * a + b) : Int) := by decide +kernel
theorem e_bitCount {x : Nat} (hx : x < 4096) (h : Hh) (K : Int → Hh → Prop) : w_J6_bitCount_0f7a4 (x : Int) h K = K (pcs 12 x : Int) h := by
  have e : w_J6_bitCount_0f7a4 (x : Int) h K = K (bcv (x : Int)) h := by
    unfold w_J6_bitCount_0f7a4 bcv
    simp only [vb_p]
  rw [e, sp64 (P := fun x => bcv (x : Int) = (pcs 12 x : Int)) bcv0 hx]
def shv (d : Int) : Int := (i32 1 <<< (i32 d &&& 31)).toInt
theorem shN0 : ∀ d, d < 13 → shv ((d : Nat) : Int) = ((2 ^ d : Nat) : Int) := by decide +kernel
theorem shN {d : Nat} (h : d ≤ 12) : (i32 1 <<< (i32 (d : Int) &&& 31)).toInt = ((2 ^ d : Nat) : Int) := shN0 d (by omega)
/-- the lowest bit -/
def lj : Nat → Nat → Nat
  | 0, _ => 0
  | k + 1, z => if z % 2 = 1 then 0 else lj k (z / 2) + 1
theorem lj0 : ∀ a, a < 64 → ∀ b, b < 64 → 64 * a + b ≠ 0 → (64 * a + b).testBit (lj 12 (64 * a + b)) = true ∧ lj 12 (64 * a + b) < 12 ∧ (∀ i, i < lj 12 (64 * a + b) → (64 * a + b).testBit i = false) ∧ (i32 ((64 * a + b : Nat) : Int) &&& i32 (w32 (-((64 * a + b : Nat) : Int)))) = i32 ((2 ^ lj 12 (64 * a + b) : Nat) : Int) := by decide +kernel
theorem ljN {z : Nat} (hz : z < 4096) (h0 : z ≠ 0) : z.testBit (lj 12 z) = true ∧ lj 12 z < 12 ∧ (∀ i, i < lj 12 z → z.testBit i = false) ∧ (i32 (z : Int) &&& i32 (w32 (-(z : Int)))) = i32 ((2 ^ lj 12 z : Nat) : Int) := sp64 (P := fun z => z ≠ 0 → z.testBit (lj 12 z) = true ∧ lj 12 z < 12 ∧ (∀ i, i < lj 12 z → z.testBit i = false) ∧ (i32 (z : Int) &&& i32 (w32 (-(z : Int)))) = i32 ((2 ^ lj 12 z : Nat) : Int)) lj0 hz h0
/-- the reference's choice between two heaps -/
theorem pick {x y d : Nat} (hd : d ≤ 12) (hx : x < 2 ^ d) (hy : y < 2 ^ d) (ne : x ≠ y) : ((i32 ((i32 (x : Int) &&& i32 ((i32 (x : Int) ^^^ i32 (y : Int)).toInt)).toInt) &&& i32 (w32 (-((i32 (x : Int) ^^^ i32 (y : Int)).toInt)))).toInt = 0 ↔ rvb d x < rvb d y) ∧ rvb d x ≠ rvb d y := by
  have p : (2 : Nat) ^ d ≤ 2 ^ 12 := Nat.pow_le_pow_right (by omega) hd
  rw [p12] at p
  have hx' : x < 4096 := by omega
  have hy' : y < 4096 := by omega
  have z4 : x ^^^ y < 2 ^ 12 := Nat.xor_lt_two_pow hx' hy'
  rw [p12] at z4
  have z0 : x ^^^ y ≠ 0 := by
    intro w
    apply ne
    apply Nat.eq_of_testBit_eq
    intro i
    have := congrArg (fun v => Nat.testBit v i) w
    simp only [Nat.testBit_xor, Nat.zero_testBit] at this
    revert this
    cases x.testBit i <;> cases y.testBit i <;> simp
  obtain ⟨b1, b2, b3, b4⟩ := ljN z4 z0
  rw [xorI hx' hy', i32_of, Int32.and_assoc, b4, andI hx']
  have low : ∀ i, i < lj 12 (x ^^^ y) → x.testBit i = y.testBit i := by
    intro i hi
    have := b3 i hi
    rw [Nat.testBit_xor] at this
    revert this
    cases x.testBit i <;> cases y.testBit i <;> simp
  rw [Nat.testBit_xor] at b1
  have jd : lj 12 (x ^^^ y) < d := by
    apply Nat.lt_of_not_le
    intro w
    rw [Nat.testBit_lt_two_pow (Nat.lt_of_lt_of_le hx (Nat.pow_le_pow_right (by omega) w)), Nat.testBit_lt_two_pow (Nat.lt_of_lt_of_le hy (Nat.pow_le_pow_right (by omega) w))] at b1
    exact absurd b1 (by decide)
  cases ex : x.testBit (lj 12 (x ^^^ y))
  · have ey : y.testBit (lj 12 (x ^^^ y)) = true := by
      rw [ex] at b1
      revert b1
      cases y.testBit (lj 12 (x ^^^ y)) <;> simp
    have o := rv_ord (x := y) (y := x) ⟨ey, ex, fun i hi => (low i hi).symm⟩ d jd
    refine ⟨⟨fun _ => o, fun _ => ?_⟩, by omega⟩
    have e : x &&& 2 ^ lj 12 (x ^^^ y) = 0 := by
      apply Nat.eq_of_testBit_eq
      intro i
      rw [Nat.testBit_and, Nat.zero_testBit, Nat.testBit_two_pow]
      by_cases q : lj 12 (x ^^^ y) = i
      · rw [← q, ex, Bool.false_and]
      · rw [decide_eq_false q, Bool.and_false]
    rw [e]
    rfl
  · have ey : y.testBit (lj 12 (x ^^^ y)) = false := by
      rw [ex] at b1
      revert b1
      cases y.testBit (lj 12 (x ^^^ y)) <;> simp
    have o := rv_ord (x := x) (y := y) ⟨ex, ey, low⟩ d jd
    refine ⟨⟨fun w => ?_, fun w => by omega⟩, by omega⟩
    exfalso
    have e : x &&& 2 ^ lj 12 (x ^^^ y) = 0 := by omega
    have := congrArg (fun v => Nat.testBit v (lj 12 (x ^^^ y))) e
    simp only [Nat.testBit_and, Nat.zero_testBit, ex, Nat.testBit_two_pow_self, Bool.and_self] at this
    exact absurd this (by decide)
