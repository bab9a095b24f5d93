/-! PURE 37: the law's loop -/
theorem law_loop {sb sn : Int} {sc : Int → Int} (hn0 : 0 ≤ sn) (hn : sn ≤ 3584) (hr : ∀ i, r32 (sc i)) : ∀ (n : Nat) (i : Int) (h : Hh) (S : St), Both h S → 0 ≤ i → i ≤ sn + 6 → sn - i < 7 * (n : Int) - 7 → w_L_law_18 (fun r _ => r = 1) sb sn sc n 0 33 i h := by
  intro n
  induction n with
  | zero => intro i h S b i0 i2 hm; omega
  | succ n ih =>
    intro i h S b i0 i2 hm
    rw [w_L_law_18, and_t (by omega), w32_id (z := sn - 7) (by omega) (by omega)]
    by_cases he : i > sn - 7
    · rw [if_pos he]
    · rw [if_neg he, and_t (by omega)]
      simp only [w32_id (z := i + 1) (show -2147483648 ≤ i + 1 by omega) (show i + 1 < 2147483648 by omega), w32_id (z := i + 2) (show -2147483648 ≤ i + 2 by omega) (show i + 2 < 2147483648 by omega), w32_id (z := i + 3) (show -2147483648 ≤ i + 3 by omega) (show i + 3 < 2147483648 by omega), w32_id (z := i + 4) (show -2147483648 ≤ i + 4 by omega) (show i + 4 < 2147483648 by omega), w32_id (z := i + 5) (show -2147483648 ≤ i + 5 by omega) (show i + 5 < 2147483648 by omega), w32_id (z := i + 6) (show -2147483648 ≤ i + 6 by omega) (show i + 6 < 2147483648 by omega)]
      have nx : ∀ h' S', Both h' S' → w_L_law_1144 (fun r _ => r = 1) (w_L_law_18 (fun r _ => r = 1) sb sn sc n) sb sn sc 0 33 i h' := fun h' S' b' => by
        unfold w_L_law_1144
        rw [vb_p, w32_id (by omega) (by omega)]
        exact ih (i + 7) h' S' b' (by omega) (by omega) (by omega)
      have k1 : 0 ≤ i + 1 ∧ i + 1 < sn := by omega
      have k2 : 0 ≤ i + 2 ∧ i + 2 < sn := by omega
      have k3 : 0 ≤ i + 3 ∧ i + 3 < sn := by omega
      have k4 : 0 ≤ i + 4 ∧ i + 4 < sn := by omega
      have k5 : 0 ≤ i + 5 ∧ i + 5 < sn := by omega
      have k6 : 0 ≤ i + 6 ∧ i + 6 < sn := by omega
      have z0 : (0 : Int) ≤ 0 := by omega
      by_cases c0 : (i32 (sc i) &&& i32 31).toInt = 0
      · rw [if_pos c0]
        exact ⟨k1, k2, k3, k4, k5, z0, a_feed _ _ _ _ _ h S b _ _ (fun h' S' b' => nx h' S' b')⟩
      rw [if_neg c0]
      by_cases c1 : (i32 (sc i) &&& i32 31).toInt = 1
      · rw [if_pos c1]
        exact ⟨k1, z0, a_end _ h S b _ _ (fun h' S' b' => nx h' S' b')⟩
      rw [if_neg c1]
      by_cases c2 : (i32 (sc i) &&& i32 31).toInt = 2
      · rw [if_pos c2]
        exact ⟨z0, a_fault h S b _ _ (fun h' S' b' => nx h' S' b')⟩
      rw [if_neg c2]
      by_cases c3 : (i32 (sc i) &&& i32 31).toInt = 3
      · rw [if_pos c3]
        exact ⟨z0, a_rule h S b _ _ (fun h' S' b' => nx h' S' b')⟩
      rw [if_neg c3]
      by_cases c4 : (i32 (sc i) &&& i32 31).toInt = 4
      · rw [if_pos c4]
        exact ⟨k1, k2, z0, a_told _ _ h S b _ _ (fun h' S' b' => nx h' S' b')⟩
      rw [if_neg c4]
      by_cases c5 : (i32 (sc i) &&& i32 31).toInt = 5
      · rw [if_pos c5]
        exact ⟨k1, k2, k3, k4, k5, z0, a_range _ _ _ _ _ (hr _) h S b _ _ (fun h' S' b' => nx h' S' b')⟩
      rw [if_neg c5]
      by_cases c6 : (i32 (sc i) &&& i32 31).toInt = 6
      · rw [if_pos c6]
        exact ⟨k1, k2, k3, z0, a_mark _ _ _ h S b _ _ (fun h' S' b' => nx h' S' b')⟩
      rw [if_neg c6]
      by_cases c7 : (i32 (sc i) &&& i32 31).toInt = 7
      · rw [if_pos c7]
        exact ⟨k1, k2, k3, k4, k5, k6, z0, a_chart _ _ _ _ _ _ (hr _) (hr _) (hr _) (hr _) h S b _ _ (fun h' S' b' => nx h' S' b')⟩
      rw [if_neg c7]
      by_cases c8 : (i32 (sc i) &&& i32 31).toInt = 8
      · rw [if_pos c8]
        exact ⟨k1, k2, z0, a_reading _ _ (hr _) h S b _ _ (fun h' S' b' => nx h' S' b')⟩
      rw [if_neg c8]
      by_cases c9 : (i32 (sc i) &&& i32 31).toInt = 9
      · rw [if_pos c9]
        exact ⟨k1, k2, z0, a_read _ _ h S b _ _ (fun h' S' b' => nx h' S' b')⟩
      rw [if_neg c9]
      by_cases c10 : (i32 (sc i) &&& i32 31).toInt = 10
      · rw [if_pos c10]
        exact ⟨k1, k2, z0, a_lead _ _ h S b _ _ (fun h' S' b' => nx h' S' b')⟩
      rw [if_neg c10]
      by_cases c11 : (i32 (sc i) &&& i32 31).toInt = 11
      · rw [if_pos c11]
        rw [and_t k1, and_t k2]
        simp only [w_L_law_596, w_L_law_618]
        by_cases g : sc (i + 2) = 0
        · rw [if_pos g, and_t z0]
          simp only [w32_id (z := i + 1) (show -2147483648 ≤ i + 1 by omega) (show i + 1 < 2147483648 by omega), w32_id (z := i + 2) (show -2147483648 ≤ i + 2 by omega) (show i + 2 < 2147483648 by omega), w32_id (z := i + 3) (show -2147483648 ≤ i + 3 by omega) (show i + 3 < 2147483648 by omega), and_t k1, and_t k2, and_t k3, if_pos g]
          exact a_span _ _ h S b _ _ (fun h' S' b' => nx h' S' b')
        · rw [if_neg g, and_t z0]
          simp only [w32_id (z := i + 1) (show -2147483648 ≤ i + 1 by omega) (show i + 1 < 2147483648 by omega), w32_id (z := i + 2) (show -2147483648 ≤ i + 2 by omega) (show i + 2 < 2147483648 by omega), w32_id (z := i + 3) (show -2147483648 ≤ i + 3 by omega) (show i + 3 < 2147483648 by omega), and_t k1, and_t k2, and_t k3, if_neg g]
          exact a_span _ _ h S b _ _ (fun h' S' b' => nx h' S' b')
      rw [if_neg c11]
      by_cases c12 : (i32 (sc i) &&& i32 31).toInt = 12
      · rw [if_pos c12]
        exact ⟨k1, k2, k3, z0, a_page _ _ _ h S b _ _ (fun h' S' b' => nx h' S' b')⟩
      rw [if_neg c12]
      by_cases c13 : (i32 (sc i) &&& i32 31).toInt = 13
      · rw [if_pos c13]
        exact ⟨k1, k2, k3, z0, a_sharpest _ _ _ h S b _ _ (fun h' S' b' => nx h' S' b')⟩
      rw [if_neg c13]
      by_cases c14 : (i32 (sc i) &&& i32 31).toInt = 14
      · rw [if_pos c14]
        exact ⟨k1, z0, a_list _ h S b _ _ (fun h' S' b' => nx h' S' b')⟩
      rw [if_neg c14]
      by_cases c15 : (i32 (sc i) &&& i32 31).toInt = 15
      · rw [if_pos c15]
        exact ⟨z0, a_clear h S b _ _ (fun h' S' b' => nx h' S' b')⟩
      rw [if_neg c15]
      by_cases c16 : (i32 (sc i) &&& i32 31).toInt = 16
      · rw [if_pos c16]
        exact ⟨k1, k2, k3, z0, a_finest _ _ _ h S b _ _ (fun h' S' b' => nx h' S' b')⟩
      rw [if_neg c16]
      by_cases c17 : (i32 (sc i) &&& i32 31).toInt = 17
      · rw [if_pos c17]
        exact ⟨k1, k2, k3, k4, z0, a_paper _ _ _ _ h S b _ _ (fun h' S' b' => nx h' S' b')⟩
      rw [if_neg c17]
      by_cases c18 : (i32 (sc i) &&& i32 31).toInt = 18
      · rw [if_pos c18]
        rw [and_t k1, and_t k2, and_t k3]
        simp only [w_L_law_868, w_L_law_895]
        by_cases g : sc (i + 3) = 0
        · rw [if_pos g, and_t z0]
          simp only [w32_id (z := i + 1) (show -2147483648 ≤ i + 1 by omega) (show i + 1 < 2147483648 by omega), w32_id (z := i + 2) (show -2147483648 ≤ i + 2 by omega) (show i + 2 < 2147483648 by omega), w32_id (z := i + 3) (show -2147483648 ≤ i + 3 by omega) (show i + 3 < 2147483648 by omega), and_t k1, and_t k2, and_t k3, if_pos g]
          exact a_swelled _ _ _ h S b _ _ (fun h' S' b' => nx h' S' b')
        · rw [if_neg g, and_t z0]
          simp only [w32_id (z := i + 1) (show -2147483648 ≤ i + 1 by omega) (show i + 1 < 2147483648 by omega), w32_id (z := i + 2) (show -2147483648 ≤ i + 2 by omega) (show i + 2 < 2147483648 by omega), w32_id (z := i + 3) (show -2147483648 ≤ i + 3 by omega) (show i + 3 < 2147483648 by omega), and_t k1, and_t k2, and_t k3, if_neg g]
          exact a_swelled _ _ _ h S b _ _ (fun h' S' b' => nx h' S' b')
      rw [if_neg c18]
      by_cases c19 : (i32 (sc i) &&& i32 31).toInt = 19
      · rw [if_pos c19]
        exact ⟨k1, z0, a_go _ h S b _ _ (fun h' S' b' => nx h' S' b')⟩
      rw [if_neg c19]
      by_cases c20 : (i32 (sc i) &&& i32 31).toInt = 20
      · rw [if_pos c20]
        exact ⟨k1, k2, k3, k4, z0, a_move _ _ _ _ h S b _ _ (fun h' S' b' => nx h' S' b')⟩
      rw [if_neg c20]
      by_cases c21 : (i32 (sc i) &&& i32 31).toInt = 21
      · rw [if_pos c21]
        exact ⟨k1, k2, z0, a_report _ _ h S b _ _ (fun h' S' b' => nx h' S' b')⟩
      rw [if_neg c21]
      by_cases c22 : (i32 (sc i) &&& i32 31).toInt = 22
      · rw [if_pos c22]
        exact ⟨k1, k2, k3, z0, a_due _ _ _ h S b _ _ (fun h' S' b' => nx h' S' b')⟩
      rw [if_neg c22]
      by_cases c23 : (i32 (sc i) &&& i32 31).toInt = 23
      · rw [if_pos c23]
        exact ⟨k1, z0, a_habit _ h S b _ _ (fun h' S' b' => nx h' S' b')⟩
      rw [if_neg c23]
      by_cases c24 : (i32 (sc i) &&& i32 31).toInt = 24
      · rw [if_pos c24]
        exact ⟨k1, k2, k3, z0, a_suspects _ _ _ (hr _) h S b _ _ (fun h' S' b' => nx h' S' b')⟩
      rw [if_neg c24]
      by_cases c25 : (i32 (sc i) &&& i32 31).toInt = 25
      · rw [if_pos c25]
        exact ⟨k1, z0, a_count _ h S b _ _ (fun h' S' b' => nx h' S' b')⟩
      rw [if_neg c25]
      exact nx h S b
