/-! PURE 5: end, list -/
theorem end_C (a0 n : Int) (h : Hh) (K : Int → Hh → Prop) : w_X10_end a0 n h K = if 0 ≤ n ∧ n ≤ h (a0 + 1) 1 then K 1 (up h (a0 + 1) 1 n) else K 0 h := by
  simp only [w_X10_end, w_X10_end_15, hb]
  by_cases h1 : n < 0
  · rw [if_pos h1, if_neg (show ¬ (0 ≤ n ∧ n ≤ h (a0 + 1) 1) by omega)]
  · by_cases h2 : n ≤ h (a0 + 1) 1
    · rw [if_neg h1, if_pos h2, if_pos (show 0 ≤ n ∧ n ≤ h (a0 + 1) 1 by omega)]
    · rw [if_neg h1, if_neg h2, if_neg (show ¬ (0 ≤ n ∧ n ≤ h (a0 + 1) 1) by omega)]
theorem end_M (a0 n : Int) (h : Hh) (K : Int → Hh → Prop) : w_X11_end a0 n h K = if 0 ≤ n ∧ n ≤ h a0 1 then K 1 (up h a0 1 n) else K 0 h := by
  simp only [w_X11_end, hb, e_in]
  by_cases h1 : 0 ≤ n ∧ n ≤ h a0 1
  · rw [if_pos h1, if_pos h1, if_pos (by decide)]
  · rw [if_neg h1, if_neg h1, if_neg (by decide)]
/-- m stands among the first c of a row -/
def isIn (f : Int → Int) (c m : Int) : Prop := ∃ i, 0 ≤ i ∧ i < c ∧ f i = m
theorem isl_no {a0 m : Int} {h : Hh} {K : Int → Hh → Prop} (hc : h a0 7 ≤ 4) (hK : K 0 h) : ∀ (k n : Nat) (i : Int), k < n → h a0 7 - i ≤ k → 0 ≤ i → (∀ j, i ≤ j → j < h a0 7 → h (a0 + 8) j ≠ m) → w_X10_isListed_2 K a0 n m i h := by
  intro k
  induction k with
  | zero =>
    intro n i hn hi h0 hno
    obtain ⟨n, rfl⟩ : ∃ m, n = m + 1 := ⟨n - 1, by omega⟩
    rw [w_X10_isListed_2, if_pos (by omega)]
    exact hK
  | succ k ih =>
    intro n i hn hi h0 hno
    obtain ⟨n, rfl⟩ : ∃ m, n = m + 1 := ⟨n - 1, by omega⟩
    rw [w_X10_isListed_2]
    by_cases h1 : i ≥ h a0 7
    · rw [if_pos h1]; exact hK
    · rw [if_neg h1, if_pos (hno i (by omega) (by omega))]
      simp only [vb]
      rw [w32_id (by omega) (by omega)]
      exact ⟨⟨h0, by omega⟩, ih n (i + 1) (by omega) (by omega) (by omega) (fun j h2 h3 => hno j (by omega) h3)⟩
theorem isl_yes {a0 m : Int} {h : Hh} {K : Int → Hh → Prop} (hc : h a0 7 ≤ 4) (hK : K 1 h) : ∀ (k n : Nat) (i : Int), k < n → h a0 7 - i ≤ k → 0 ≤ i → (∃ j, i ≤ j ∧ j < h a0 7 ∧ h (a0 + 8) j = m) → w_X10_isListed_2 K a0 n m i h := by
  intro k
  induction k with
  | zero =>
    intro n i hn hi h0 hno
    obtain ⟨j, h1, h2, -⟩ := hno
    omega
  | succ k ih =>
    intro n i hn hi h0 hno
    obtain ⟨n, rfl⟩ : ∃ m, n = m + 1 := ⟨n - 1, by omega⟩
    obtain ⟨j, h1, h2, h3⟩ := hno
    rw [w_X10_isListed_2, if_neg (by omega)]
    refine ⟨⟨h0, by omega⟩, ?_⟩
    by_cases h4 : h (a0 + 8) i ≠ m
    · rw [if_pos h4]
      simp only [vb]
      rw [w32_id (by omega) (by omega)]
      have h5 : j ≠ i := fun e => h4 (by rw [← e]; exact h3)
      exact ih n (i + 1) (by omega) (by omega) (by omega) ⟨j, by omega, h2, h3⟩
    · rw [if_neg h4]; exact hK
theorem list_C_ok {a0 m : Int} {h : Hh} {K : Int → Hh → Prop} (hc : 0 ≤ h a0 7 ∧ h a0 7 < 4) (hm : 1 ≤ m ∧ m ≤ 50) (hno : ¬ isIn (h (a0 + 8)) (h a0 7) m) (hK : K (h a0 7 + 1) (up (up h (a0 + 8) (h a0 7) m) a0 7 (h a0 7 + 1))) : w_X10_list a0 m h K := by
  unfold w_X10_list
  rw [if_neg (by omega), if_neg (by omega), if_neg (by omega)]
  refine isl_no (by omega) ?_ 10 NF 0 (by decide) (by omega) (by omega) (fun j h1 h2 h3 => hno ⟨j, h1, h2, h3⟩)
  rw [if_pos rfl]
  refine ⟨⟨by omega, by omega⟩, ?_⟩
  simp only [hb]
  rw [up_ne (show a0 ≠ a0 + 8 by omega), w32_id (by omega) (by omega), up_at, if_pos rfl]
  exact hK
theorem list_C_no {a0 m : Int} {h : Hh} {K : Int → Hh → Prop} (hc : 0 ≤ h a0 7 ∧ h a0 7 ≤ 4) (hno : h a0 7 = 4 ∨ ¬ (1 ≤ m ∧ m ≤ 50) ∨ isIn (h (a0 + 8)) (h a0 7) m) (hK : K (-1) h) : w_X10_list a0 m h K := by
  simp only [w_X10_list, w_X10_list_27]
  by_cases h1 : m < 1
  · rw [if_pos h1]; exact hK
  · by_cases h2 : m > 50
    · rw [if_neg h1, if_pos h2]; exact hK
    · by_cases h3 : h a0 7 ≥ 4
      · rw [if_neg h1, if_neg h2, if_pos h3]; exact hK
      · rw [if_neg h1, if_neg h2, if_neg h3]
        have h4 : isIn (h (a0 + 8)) (h a0 7) m := by
          rcases hno with h5 | h5 | h5
          · omega
          · omega
          · exact h5
        obtain ⟨j, q1, q2, q3⟩ := h4
        refine isl_yes (by omega) ?_ 10 NF 0 (by decide) (by omega) (by omega) ⟨j, q1, q2, q3⟩
        rw [if_neg (by decide)]; exact hK
