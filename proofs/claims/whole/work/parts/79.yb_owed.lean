/-! PURE 36: still owed -/
theorem a_rule : Agree (w_X10_rule 0) (w_X11_rule 33) := sorry
