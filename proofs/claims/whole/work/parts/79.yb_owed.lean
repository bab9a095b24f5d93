/-! PURE 36: still owed -/
theorem a_fault : Agree (w_X10_fault 0) (w_X11_fault 33) := sorry
theorem a_rule : Agree (w_X10_rule 0) (w_X11_rule 33) := sorry
