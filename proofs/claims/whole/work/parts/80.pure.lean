/-! THE PURE STATEMENT: what is left -/
theorem pure_law (sb sn : Int) (sc : Int → Int) (hn0 : 0 ≤ sn) (hn : sn ≤ 3584) (hr : ∀ i, r32 (sc i)) (h : Hh) (hh : h (-1) 0 = 0) : w_L_law sb sn sc h (fun r _ => r = 1) := by
  sorry
