/-! PURE: the law's walk over both -/
theorem pure_law (sb sn : Int) (sc : Int → Int) (hn0 : 0 ≤ sn) (hn : sn ≤ 3584) (hr : ∀ i, r32 (sc i)) (h : Hh) (hh : h (-1) 0 = 0) : w_L_law sb sn sc h (fun r _ => r = 1) :=
  law_start hh (fun g b => law_loop hn0 hn hr NL 0 g S0 b (Int.le_refl _) (by omega) (by show sn - 0 < 7 * (600 : Int) - 7; omega))
