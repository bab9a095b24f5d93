/-! PURE 3: the class's halving -/
theorem e_absL {x : Int} (hx : -4000000000 ≤ x ∧ x ≤ 4000000000) (h : Hh) (K : Int → Hh → Prop) : w_J9_abs_067f4 x h K = K (if 0 ≤ x then x else -x) h := by
  simp only [w_J9_abs_067f4, w_J9_abs_067f4_12]
  by_cases h0 : x ≥ 0
  · rw [if_pos h0, if_pos h0]
  · rw [if_neg h0, if_neg h0, w64_id (by omega) (by omega)]
theorem bk_ex {sm lo up y : Int} : ∀ (n : Nat) (a b : Int), b - a = n → lies sm lo up a ≤ y → y < lies sm lo up b → ∃ z, a ≤ z ∧ z < b ∧ bk sm lo up y z := by
  intro n
  induction n with
  | zero =>
    intro a b h h1 h2
    rw [show b = a by omega] at h2
    omega
  | succ n ih =>
    intro a b h h1 h2
    by_cases h3 : lies sm lo up (a + 1) ≤ y
    · obtain ⟨z, z1, z2, z3⟩ := ih (a + 1) b (by omega) h3 h2
      exact ⟨z, by omega, z2, z3⟩
    · exact ⟨a, by omega, by omega, h1, by omega⟩
theorem mul50 {u k : Int} (hk : -50 ≤ k ∧ k ≤ 50) : (0 ≤ u → -(50 * u) ≤ u * k ∧ u * k ≤ 50 * u) ∧ (u ≤ 0 → 50 * u ≤ u * k ∧ u * k ≤ -(50 * u)) := by
  constructor
  · intro h
    have := mul_bd (a := u) (b := k) (A := u) (B := 50) (by omega) hk
    omega
  · intro h
    have := mul_bd (a := u) (b := k) (A := -u) (B := 50) (by omega) hk
    omega
theorem lies_near {sm lo up y : Int} (hp : pap sm lo up) : (0 ≤ y → 950 * y - 4000000 ≤ 1000 * lies sm lo up y ∧ 1000 * lies sm lo up y ≤ 1050 * y + 4000000) ∧ (y ≤ 0 → 1050 * y - 4000000 ≤ 1000 * lies sm lo up y ∧ 1000 * lies sm lo up y ≤ 950 * y + 4000000) := by
  obtain ⟨hs, hl, hu⟩ := hp
  unfold lies
  by_cases h1 : y > sm
  · rw [if_pos h1]
    have b1 := mul50 (u := sm) hl
    have b2 := mul50 (u := y - sm) hu
    have t1 := th_bd2 (sm * lo)
    have t2 := th_bd2 ((y - sm) * up)
    have t3 := th_bd (sm * lo)
    have t4 := th_bd ((y - sm) * up)
    omega
  · rw [if_neg h1]
    have b1 := mul50 (u := y) hl
    have t1 := th_bd2 (y * lo)
    have t2 := th_bd (y * lo)
    omega
theorem e_place_loop {a0 y : Int} {h : Hh} {K : Int → Hh → Prop} {X : Int → Hh → Prop} (hp : pap (h a0 0) (h a0 1) (h a0 2)) (z : Int) (hz : bk (h a0 0) (h a0 1) (h a0 2) y z) (hX : X z h) :
    ∀ (k n : Nat) (u o i : Int), k < n → o - u ≤ 2 ^ k → i + k ≤ 64 → 0 ≤ i → -5000000000 ≤ u → o ≤ 5000000000 → lies (h a0 0) (h a0 1) (h a0 2) u ≤ y → y < lies (h a0 0) (h a0 1) (h a0 2) o → w_X4_placeReadAt_26 K X a0 n y u o i h := by
  have huo : ∀ u o : Int, lies (h a0 0) (h a0 1) (h a0 2) u ≤ y → y < lies (h a0 0) (h a0 1) (h a0 2) o → u < o := by
    intro u o h1 h2
    apply Classical.byContradiction
    intro h3
    have := lies_mono hp (show o ≤ u by omega)
    omega
  have hend : ∀ u o : Int, o - u ≤ 1 → lies (h a0 0) (h a0 1) (h a0 2) u ≤ y → y < lies (h a0 0) (h a0 1) (h a0 2) o → X u h := by
    intro u o h0 h1 h2
    have h3 := huo u o h1 h2
    have e : u = z := bk_one hp ⟨h1, by rw [show u + 1 = o by omega]; exact h2⟩ hz
    rw [e]; exact hX
  intro k
  induction k with
  | zero =>
    intro n u o i hn hab hi hi0 h1 h2 h4 h5
    obtain ⟨n, rfl⟩ : ∃ m, n = m + 1 := ⟨n - 1, by omega⟩
    rw [w_X4_placeReadAt_26]
    have h6 := huo u o h4 h5
    have hab1 : o - u ≤ 1 := hab
    by_cases h7 : i ≥ 64
    · rw [if_pos h7]; exact hend u o hab1 h4 h5
    · rw [if_neg h7, w64_id (by omega) (by omega), if_pos hab1]; exact hend u o hab1 h4 h5
  | succ k ih =>
    intro n u o i hn hab hi hi0 h1 h2 h4 h5
    obtain ⟨n, rfl⟩ : ∃ m, n = m + 1 := ⟨n - 1, by omega⟩
    rw [w_X4_placeReadAt_26]
    have h6 := huo u o h4 h5
    have hpow : (2 : Int) ^ (k + 1) = 2 * 2 ^ k := by rw [Int.pow_succ]; omega
    rw [hpow] at hab
    rw [if_neg (by omega), w64_id (z := o - u) (by omega) (by omega)]
    by_cases h7 : o - u ≤ 1
    · rw [if_pos h7]; exact hend u o h7 h4 h5
    · rw [if_neg h7, td_pos (by omega) (by omega)]
      simp only [vb]
      rw [w64_id (z := (o - u) / 2) (by omega) (by omega), w64_id (z := u + (o - u) / 2) (by omega) (by omega), e_lies hp ⟨by omega, by omega⟩]
      by_cases h8 : lies (h a0 0) (h a0 1) (h a0 2) (u + (o - u) / 2) > y
      · rw [if_pos h8]
        simp only [w_X4_placeReadAt_79, vb]
        rw [w32_id (by omega) (by omega)]
        exact ih n u _ _ (by omega) (by omega) (by omega) (by omega) h1 (by omega) h4 (by omega)
      · rw [if_neg h8]
        simp only [w_X4_placeReadAt_79, vb]
        rw [w32_id (by omega) (by omega)]
        exact ih n _ o _ (by omega) (by omega) (by omega) (by omega) (by omega) h2 (by omega) h5
theorem e_back {a0 c y : Int} {h : Hh} {K : Int → Hh → Prop} (hc : 0 ≤ c ∧ c < 6) (hp : pap (h (a0 + 16) c) (h (a0 + 17) c) (h (a0 + 18) c)) (hy : -3000000000 ≤ y ∧ y ≤ 3000000000) (z : Int) (hz : bk (h (a0 + 16) c) (h (a0 + 17) c) (h (a0 + 18) c) y z) (hK : K z h) : w_X11_back a0 c y h K := by
  unfold w_X11_back
  have n1 := lies_near (y := -4000000000) hp
  have n2 := lies_near (y := 4000000001) hp
  exact e_back_loop hc hp z hz hK 40 NF _ _ (by decide) (by decide) (by omega) (by omega) (by omega) (by omega) (by rw [show (4000000000 : Int) + 1 = 4000000001 by decide]; omega)
theorem e_place {a0 y : Int} {h : Hh} {K : Int → Hh → Prop} (hp : pap (h a0 0) (h a0 1) (h a0 2)) (hy : -3000000000 ≤ y ∧ y ≤ 3000000000) (z : Int) (hz : bk (h a0 0) (h a0 1) (h a0 2) y z) (hK : K z h) : w_X4_placeReadAt a0 y h K := by
  unfold w_X4_placeReadAt
  rw [e_absL ⟨by omega, by omega⟩]
  simp only [vb]
  have hd : ∃ d : Int, d = (if 0 ≤ y then y else -y) / 10 + 5000 ∧ (0 ≤ y → d = y / 10 + 5000) ∧ (y < 0 → d = (-y) / 10 + 5000) := ⟨_, rfl, fun h => by rw [if_pos h], fun h => by rw [if_neg (by omega)]⟩
  obtain ⟨d, e1, e2, e3⟩ := hd
  have hd2 : 5000 ≤ d ∧ d ≤ 300005000 := by omega
  rw [td_pos (by split <;> omega) (by omega), w64_id (z := (if 0 ≤ y then y else -y) / 10) (by omega) (by omega), ← e1, w64_id (z := d) (by omega) (by omega), w64_id (z := y - d) (by omega) (by omega), w64_id (z := y + d) (by omega) (by omega)]
  have n1 := lies_near (y := y - d) hp
  have n2 := lies_near (y := y + d) hp
  exact e_place_loop hp z hz hK 40 NF _ _ _ (by decide) (by show y + d - (y - d) ≤ 1099511627776; omega) (by decide) (by decide) (by omega) (by omega) (by omega) (by omega)
/-- there is just one place that is read off -/
theorem bk_get {sm lo up y : Int} (hp : pap sm lo up) (hy : -3000000000 ≤ y ∧ y ≤ 3000000000) : ∃ z, bk sm lo up y z ∧ -4000000000 ≤ z ∧ z ≤ 4000000000 := by
  have n1 := lies_near (y := -4000000000) hp
  have n2 := lies_near (y := 4000000001) hp
  obtain ⟨z, z1, z2, z3⟩ := bk_ex (sm := sm) (lo := lo) (up := up) (y := y) 8000000001 (-4000000000) 4000000001 (by decide) (by omega) (by omega)
  exact ⟨z, z3, by omega, by omega⟩
