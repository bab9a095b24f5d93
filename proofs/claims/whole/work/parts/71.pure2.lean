/-! PURE 2: how paper swells -/
theorem mul_bd {a b A B : Int} (ha : -A ≤ a ∧ a ≤ A) (hb : -B ≤ b ∧ b ≤ B) : -(A * B) ≤ a * b ∧ a * b ≤ A * B := by
  have h1 := Int.mul_nonneg (show 0 ≤ A - a by omega) (show 0 ≤ B + b by omega)
  have h2 := Int.mul_nonneg (show 0 ≤ A + a by omega) (show 0 ≤ B - b by omega)
  have h3 := Int.mul_nonneg (show 0 ≤ A - a by omega) (show 0 ≤ B - b by omega)
  have h4 := Int.mul_nonneg (show 0 ≤ A + a by omega) (show 0 ≤ B + b by omega)
  simp only [Int.sub_mul, Int.add_mul, Int.mul_sub, Int.mul_add] at h1 h2 h3 h4
  omega
/-- a thousandth, toward 0 -/
def th (x : Int) : Int := Int.tdiv x 1000
theorem th_eq (x : Int) : th x = if 0 ≤ x then x / 1000 else -((-x) / 1000) := by
  unfold th
  by_cases h : 0 ≤ x
  · rw [if_pos h, td_pos h (by omega)]
  · rw [if_neg h, td_neg (by omega) (by omega)]
theorem th_bd (x : Int) : (0 ≤ x → 0 ≤ th x ∧ th x ≤ x) ∧ (x ≤ 0 → x ≤ th x ∧ th x ≤ 0) := by
  rw [th_eq]
  split <;> omega
/-- where a point of the flat paper lies -/
def lies (sm lo up y : Int) : Int := if y > sm then sm + th (sm * lo) + (y - sm) + th ((y - sm) * up) else y + th (y * lo)
def pap (sm lo up : Int) : Prop := (-30000 ≤ sm ∧ sm ≤ 30000) ∧ (-50 ≤ lo ∧ lo ≤ 50) ∧ (-50 ≤ up ∧ up ≤ 50)
theorem th_step {D t d : Int} (hD : 0 ≤ D) (h1 : -(50 * D) ≤ d) (h2 : d ≤ 50 * D) : th t ≤ D + th (t + d) := by
  rw [th_eq, th_eq]
  split <;> split <;> omega
theorem f_mono {k x y : Int} (hk : -50 ≤ k ∧ k ≤ 50) (h : x ≤ y) : x + th (x * k) ≤ y + th (y * k) := by
  have hb := mul_bd (a := k) (b := y - x) (A := 50) (B := y - x) hk (by omega)
  have e : y * k = x * k + k * (y - x) := by rw [Int.mul_sub, Int.mul_comm k y, Int.mul_comm k x]; omega
  have hs := th_step (D := y - x) (t := x * k) (d := k * (y - x)) (by omega) (by omega) (by omega)
  rw [e]
  omega
theorem lies_mono {sm lo up x y : Int} (hp : pap sm lo up) (h : x ≤ y) : lies sm lo up x ≤ lies sm lo up y := by
  obtain ⟨hs, hl, hu⟩ := hp
  unfold lies
  by_cases h1 : x > sm
  · rw [if_pos h1, if_pos (by omega)]
    have := f_mono hu (show x - sm ≤ y - sm by omega)
    omega
  · by_cases h2 : y > sm
    · rw [if_neg h1, if_pos h2]
      have h3 := f_mono hl (show x ≤ sm by omega)
      have h4 := f_mono hu (show (0 : Int) ≤ y - sm by omega)
      rw [Int.zero_mul, show th 0 = 0 from rfl] at h4
      omega
    · rw [if_neg h1, if_neg h2]
      exact f_mono hl h
theorem th_bd2 (x : Int) : (0 ≤ x → 1000 * th x ≤ x) ∧ (x ≤ 0 → x ≤ 1000 * th x) := by
  rw [th_eq]
  split <;> omega
theorem lies_bd {sm lo up y : Int} (hp : pap sm lo up) (hy : -10000000000 ≤ y ∧ y ≤ 10000000000) : -20000000000 ≤ lies sm lo up y ∧ lies sm lo up y ≤ 20000000000 := by
  obtain ⟨hs, hl, hu⟩ := hp
  unfold lies
  have b1 := mul_bd (a := sm) (b := lo) (A := 30000) (B := 50) hs hl
  have t1 := th_bd (sm * lo)
  by_cases h1 : y > sm
  · rw [if_pos h1]
    have b2 := mul_bd (a := y - sm) (b := up) (A := 10000030000) (B := 50) (by omega) hu
    have t2 := th_bd ((y - sm) * up)
    have t3 := th_bd2 ((y - sm) * up)
    omega
  · rw [if_neg h1]
    have b2 := mul_bd (a := y) (b := lo) (A := 10000000000) (B := 50) hy hl
    have t2 := th_bd (y * lo)
    have t3 := th_bd2 (y * lo)
    omega
theorem e_cut {x k : Int} (h1 : -100000000000 ≤ x ∧ x ≤ 100000000000) (h2 : -50 ≤ k ∧ k ≤ 50) (h : Hh) (K : Int → Hh → Prop) : w_X11_cut x k h K = K (th (x * k)) h := by
  unfold w_X11_cut
  have b := mul_bd h1 h2
  have t := th_bd (x * k)
  rw [w64_id (z := x * k) (by omega) (by omega)]
  show K (w64 (th (x * k))) h = _
  rw [w64_id (by omega) (by omega)]
theorem e_swells {a0 c y : Int} {h : Hh} (hc : 0 ≤ c ∧ c < 6) (hp : pap (h (a0 + 16) c) (h (a0 + 17) c) (h (a0 + 18) c)) (hy : -10000000000 ≤ y ∧ y ≤ 10000000000) (K : Int → Hh → Prop) : w_X11_swells a0 c y h K = K (lies (h (a0 + 16) c) (h (a0 + 17) c) (h (a0 + 18) c) y) h := by
  obtain ⟨hs, hl, hu⟩ := hp
  unfold w_X11_swells
  simp only [vb]
  have b1 := mul_bd hs hl
  have t1 := th_bd (h (a0 + 16) c * h (a0 + 17) c)
  unfold lies
  by_cases h1 : y > h (a0 + 16) c
  · have b2 := mul_bd (a := y - h (a0 + 16) c) (A := 10000030000) (by omega) hu
    have t2 := th_bd ((y - h (a0 + 16) c) * h (a0 + 18) c)
    rw [if_pos h1, if_pos h1, w64_id (z := y - h (a0 + 16) c) (by omega) (by omega), e_cut (by omega) hl, e_cut (by omega) hu]
    rw [w64_id (z := h (a0 + 16) c + th (h (a0 + 16) c * h (a0 + 17) c)) (by omega) (by omega), w64_id (z := _ + (y - h (a0 + 16) c)) (by omega) (by omega), w64_id (by omega) (by omega)]
    simp [hc]
  · have b2 := mul_bd (a := y) (A := 10000000000) (by omega) hl
    have t2 := th_bd (y * h (a0 + 17) c)
    rw [if_neg h1, if_neg h1, e_cut (by omega) hl, w64_id (by omega) (by omega)]
    simp [hc]
theorem e_lies {a y : Int} {h : Hh} (hp : pap (h a 0) (h a 1) (h a 2)) (hy : -10000000000 ≤ y ∧ y ≤ 10000000000) (K : Int → Hh → Prop) : w_X4_lies a y h K = K (lies (h a 0) (h a 1) (h a 2) y) h := by
  obtain ⟨hs, hl, hu⟩ := hp
  unfold w_X4_lies
  simp only [vb]
  have b1 := mul_bd hs hl
  have t1 := th_bd (h a 0 * h a 1)
  unfold lies
  by_cases h1 : y > h a 0
  · have b2 := mul_bd (a := y - h a 0) (A := 10000030000) (by omega) hu
    have t2 := th_bd ((y - h a 0) * h a 2)
    rw [if_pos h1, if_pos h1, w64_id (z := y - h a 0) (by omega) (by omega), w64_id (z := h a 0 * h a 1) (by omega) (by omega), w64_id (z := (y - h a 0) * h a 2) (by omega) (by omega)]
    show K (w64 (w64 (w64 (h a 0 + w64 (th (h a 0 * h a 1))) + (y - h a 0)) + w64 (th ((y - h a 0) * h a 2)))) h = _
    rw [w64_id (z := th (h a 0 * h a 1)) (by omega) (by omega), w64_id (z := th ((y - h a 0) * h a 2)) (by omega) (by omega), w64_id (z := h a 0 + th (h a 0 * h a 1)) (by omega) (by omega), w64_id (z := _ + (y - h a 0)) (by omega) (by omega), w64_id (by omega) (by omega)]
  · have b2 := mul_bd (a := y) (A := 10000000000) (by omega) hl
    have t2 := th_bd (y * h a 1)
    rw [if_neg h1, if_neg h1, w64_id (z := y * h a 1) (by omega) (by omega)]
    show K (w64 (y + w64 (th (y * h a 1)))) h = _
    rw [w64_id (z := th (y * h a 1)) (by omega) (by omega), w64_id (by omega) (by omega)]
/-- the greatest place that lies not above y -/
def bk (sm lo up y z : Int) : Prop := lies sm lo up z ≤ y ∧ y < lies sm lo up (z + 1)
theorem bk_one {sm lo up y z w : Int} (hp : pap sm lo up) (h1 : bk sm lo up y z) (h2 : bk sm lo up y w) : z = w := by
  rcases Int.lt_trichotomy z w with h | h | h
  · have := lies_mono hp (show z + 1 ≤ w by omega)
    have := h1.2
    have := h2.1
    omega
  · exact h
  · have := lies_mono hp (show w + 1 ≤ z by omega)
    have := h1.1
    have := h2.2
    omega
/-- the reference's halving -/
theorem e_back_loop {a0 c y : Int} {h : Hh} {K : Int → Hh → Prop} (hc : 0 ≤ c ∧ c < 6) (hp : pap (h (a0 + 16) c) (h (a0 + 17) c) (h (a0 + 18) c)) (z : Int) (hz : bk (h (a0 + 16) c) (h (a0 + 17) c) (h (a0 + 18) c) y z) (hK : K z h) :
    ∀ (k n : Nat) (a b : Int), k < n → b - a < 2 ^ k → -4000000000 ≤ a → b ≤ 4000000000 → a ≤ b → lies (h (a0 + 16) c) (h (a0 + 17) c) (h (a0 + 18) c) a ≤ y → y < lies (h (a0 + 16) c) (h (a0 + 17) c) (h (a0 + 18) c) (b + 1) → w_X11_back_10 K a0 n c y a b h := by
  intro k
  induction k with
  | zero =>
    intro n a b hn hab h1 h2 h3 h4 h5
    obtain ⟨n, rfl⟩ : ∃ m, n = m + 1 := ⟨n - 1, by omega⟩
    rw [w_X11_back_10, if_pos (by omega)]
    have e : a = z := bk_one hp ⟨h4, by rw [show a + 1 = b + 1 by omega]; exact h5⟩ hz
    rw [e]; exact hK
  | succ k ih =>
    intro n a b hn hab h1 h2 h3 h4 h5
    obtain ⟨n, rfl⟩ : ∃ m, n = m + 1 := ⟨n - 1, by omega⟩
    rw [w_X11_back_10]
    by_cases h6 : a ≥ b
    · rw [if_pos h6]
      have e : a = z := bk_one hp ⟨h4, by rw [show a + 1 = b + 1 by omega]; exact h5⟩ hz
      rw [e]; exact hK
    · rw [if_neg h6, w64_id (z := a + b) (by omega) (by omega), w64_id (z := a + b + 1) (by omega) (by omega), e_floorM ⟨by omega, by omega⟩ (by omega) (by omega)]
      have hpow : (2 : Int) ^ (k + 1) = 2 * 2 ^ k := by rw [Int.pow_succ]; omega
      rw [hpow] at hab
      rw [e_swells hc hp ⟨by omega, by omega⟩]
      by_cases h7 : lies (h (a0 + 16) c) (h (a0 + 17) c) (h (a0 + 18) c) ((a + b + 1) / 2) > y
      · rw [if_pos h7]
        simp only [vb, w_X11_back_58]
        rw [w64_id (by omega) (by omega)]
        refine ih n a _ (by omega) (by omega) h1 (by omega) (by omega) h4 ?_
        rw [show (a + b + 1) / 2 - 1 + 1 = (a + b + 1) / 2 by omega]
        omega
      · rw [if_neg h7]
        simp only [w_X11_back_58]
        exact ih n _ b (by omega) (by omega) (by omega) h2 (by omega) (by omega) h5
