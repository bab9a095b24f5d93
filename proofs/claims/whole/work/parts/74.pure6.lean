/-! PURE 6: list, the reference's -/
theorem lsm_no {a0 m : Int} {h : Hh} {K : Int → Hh → Prop} {X : Int → Hh → Prop} (hc : h a0 42 ≤ 4) (hX : X m h) : ∀ (k n : Nat) (i : Int), k < n → h a0 42 - i ≤ k → 0 ≤ i → (∀ j, i ≤ j → j < h a0 42 → h (a0 + 30) j ≠ m) → w_X11_list_24 K X a0 n m i h := by
  intro k
  induction k with
  | zero =>
    intro n i hn hi h0 hno
    obtain ⟨n, rfl⟩ : ∃ m, n = m + 1 := ⟨n - 1, by omega⟩
    rw [w_X11_list_24, if_pos (by omega)]
    exact hX
  | succ k ih =>
    intro n i hn hi h0 hno
    obtain ⟨n, rfl⟩ : ∃ m, n = m + 1 := ⟨n - 1, by omega⟩
    rw [w_X11_list_24]
    by_cases h1 : i ≥ h a0 42
    · rw [if_pos h1]; exact hX
    · rw [if_neg h1, if_pos (hno i (by omega) (by omega))]
      simp only [vb]
      rw [w32_id (by omega) (by omega)]
      exact ⟨⟨h0, by omega⟩, ih n (i + 1) (by omega) (by omega) (by omega) (fun j h2 h3 => hno j (by omega) h3)⟩
theorem lsm_yes {a0 m : Int} {h : Hh} {K : Int → Hh → Prop} {X : Int → Hh → Prop} (hc : h a0 42 ≤ 4) (hK : K (-1) h) : ∀ (k n : Nat) (i : Int), k < n → h a0 42 - i ≤ k → 0 ≤ i → (∃ j, i ≤ j ∧ j < h a0 42 ∧ h (a0 + 30) j = m) → w_X11_list_24 K X a0 n m i h := by
  intro k
  induction k with
  | zero =>
    intro n i hn hi h0 hno
    obtain ⟨j, h1, h2, -⟩ := hno
    omega
  | succ k ih =>
    intro n i hn hi h0 hno
    obtain ⟨n, rfl⟩ : ∃ m, n = m + 1 := ⟨n - 1, by omega⟩
    obtain ⟨j, h1, h2, h3⟩ := hno
    rw [w_X11_list_24, if_neg (by omega)]
    refine ⟨⟨h0, by omega⟩, ?_⟩
    by_cases h4 : h (a0 + 30) i ≠ m
    · rw [if_pos h4]
      simp only [vb]
      rw [w32_id (by omega) (by omega)]
      have h5 : j ≠ i := fun e => h4 (by rw [← e]; exact h3)
      exact ih n (i + 1) (by omega) (by omega) (by omega) ⟨j, by omega, h2, h3⟩
    · rw [if_neg h4]; exact hK
theorem list_M_ok {a0 m : Int} {h : Hh} {K : Int → Hh → Prop} (hc : 0 ≤ h a0 42 ∧ h a0 42 < 4) (hm : 1 ≤ m ∧ m ≤ 50) (hno : ¬ isIn (h (a0 + 30)) (h a0 42) m) (hK : K (h a0 42 + 1) (up (up h (a0 + 30) (h a0 42) m) a0 42 (h a0 42 + 1))) : w_X11_list a0 m h K := by
  unfold w_X11_list
  rw [e_in, if_pos hm, if_neg (by decide), if_pos (by omega)]
  refine lsm_no (by omega) ?_ 10 NF 0 (by decide) (by omega) (by omega) (fun j h1 h2 h3 => hno ⟨j, h1, h2, h3⟩)
  refine ⟨⟨by omega, by omega⟩, ?_⟩
  simp only [hb]
  rw [up_ne (show a0 ≠ a0 + 30 by omega), w32_id (by omega) (by omega), up_at, if_pos rfl]
  exact hK
theorem list_M_no {a0 m : Int} {h : Hh} {K : Int → Hh → Prop} (hc : 0 ≤ h a0 42 ∧ h a0 42 ≤ 4) (hno : h a0 42 = 4 ∨ ¬ (1 ≤ m ∧ m ≤ 50) ∨ isIn (h (a0 + 30)) (h a0 42) m) (hK : K (-1) h) : w_X11_list a0 m h K := by
  simp only [w_X11_list, w_X11_list_20]
  rw [e_in]
  by_cases h1 : 1 ≤ m ∧ m ≤ 50
  · rw [if_pos h1, if_neg (by decide)]
    by_cases h3 : h a0 42 ≠ 4
    · rw [if_pos h3]
      have h4 : isIn (h (a0 + 30)) (h a0 42) m := by
        rcases hno with h5 | h5 | h5
        · exact absurd h5 h3
        · exact absurd h1 h5
        · exact h5
      obtain ⟨j, q1, q2, q3⟩ := h4
      exact lsm_yes (by omega) hK 10 NF 0 (by decide) (by omega) (by omega) ⟨j, q1, q2, q3⟩
    · rw [if_neg h3]; exact hK
  · rw [if_neg h1, if_pos rfl]; exact hK
