/-! PURE 36: still owed -/
theorem a_fault : Agree (w_X10_fault 0) (w_X11_fault 33) := sorry
theorem a_rule : Agree (w_X10_rule 0) (w_X11_rule 33) := sorry
theorem a_suspects (c bd w : Int) : Agree (w_X10_suspects 0 c bd w) (w_X11_suspects 33 c bd w) := sorry
