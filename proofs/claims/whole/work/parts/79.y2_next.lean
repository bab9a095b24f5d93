/-! PURE 40: the next order, a theorem a road -/
theorem gnr2_0 {h : Hh} {a b : Int} (f0 : h 26 0 = a) (f1 : h 26 1 = b) (c0 : a < b) {K : Int → Hh → Prop} (hK : ∀ h', (∀ x, x ≠ 26 → h' x = h x) → h' 26 0 = b → h' 26 1 = a → K 1 h') : w_X3_goToNext 25 2 h K := by
  obtain ⟨N, eN⟩ : ∃ N, NF = N + 1 + 1 + 1 + 1 + 1 := ⟨19995, rfl⟩
  have p0 : (a ≤ b) = True := eq_true (by omega)
  have q0 : (b ≤ a) = False := eq_false (by omega)
  simp only [w_X3_goToNext, w_X3_goToNext_31, w_X3_goToNext_67, w_X3_swap, eN, w_X3_goToNext_4, w_X3_goToNext_41, w_X3_goToNext_83, vb_p, hb_p, w32, Int.reduceAdd, Int.reduceSub, Int.reduceMod, Int.reduceNeg, Int.reduceLT, Int.reduceLE, Int.reduceGE, Int.reduceGT, Int.reduceEq, ge_iff_le, gt_iff_lt, f0, f1, p0, q0, up_at, ite_true, ite_false, and_self, true_and, and_true, if_true, if_false, reduceIte]
  refine hK _ (fun x hx => ?_) ?_ ?_
  · simp only [up_ne hx]
  all_goals simp only [up_at, Int.reduceEq, f0, f1, ite_true, ite_false, reduceIte]
theorem gnr2_1 {h : Hh} {a b : Int} (f0 : h 26 0 = a) (f1 : h 26 1 = b) (c0 : b < a) {K : Int → Hh → Prop} (hK : K 0 h) : w_X3_goToNext 25 2 h K := by
  obtain ⟨N, eN⟩ : ∃ N, NF = N + 1 + 1 + 1 + 1 + 1 := ⟨19995, rfl⟩
  have p0 : (b ≤ a) = True := eq_true (by omega)
  have q0 : (a ≤ b) = False := eq_false (by omega)
  simp only [w_X3_goToNext, w_X3_goToNext_31, w_X3_goToNext_67, w_X3_swap, eN, w_X3_goToNext_4, w_X3_goToNext_41, w_X3_goToNext_83, vb_p, hb_p, w32, Int.reduceAdd, Int.reduceSub, Int.reduceMod, Int.reduceNeg, Int.reduceLT, Int.reduceLE, Int.reduceGE, Int.reduceGT, Int.reduceEq, ge_iff_le, gt_iff_lt, f0, f1, p0, q0, up_at, ite_true, ite_false, and_self, true_and, and_true, if_true, if_false, reduceIte]
  exact hK
theorem gnr3_0 {h : Hh} {a b c : Int} (f0 : h 26 0 = a) (f1 : h 26 1 = b) (f2 : h 26 2 = c) (c0 : b < c) {K : Int → Hh → Prop} (hK : ∀ h', (∀ x, x ≠ 26 → h' x = h x) → h' 26 0 = a → h' 26 1 = c → h' 26 2 = b → K 1 h') : w_X3_goToNext 25 3 h K := by
  obtain ⟨N, eN⟩ : ∃ N, NF = N + 1 + 1 + 1 + 1 + 1 := ⟨19995, rfl⟩
  have p0 : (b ≤ c) = True := eq_true (by omega)
  have q0 : (c ≤ b) = False := eq_false (by omega)
  simp only [w_X3_goToNext, w_X3_goToNext_31, w_X3_goToNext_67, w_X3_swap, eN, w_X3_goToNext_4, w_X3_goToNext_41, w_X3_goToNext_83, vb_p, hb_p, w32, Int.reduceAdd, Int.reduceSub, Int.reduceMod, Int.reduceNeg, Int.reduceLT, Int.reduceLE, Int.reduceGE, Int.reduceGT, Int.reduceEq, ge_iff_le, gt_iff_lt, f0, f1, f2, p0, q0, up_at, ite_true, ite_false, and_self, true_and, and_true, if_true, if_false, reduceIte]
  refine hK _ (fun x hx => ?_) ?_ ?_ ?_
  · simp only [up_ne hx]
  all_goals simp only [up_at, Int.reduceEq, f0, f1, f2, ite_true, ite_false, reduceIte]
theorem gnr3_1 {h : Hh} {a b c : Int} (f0 : h 26 0 = a) (f1 : h 26 1 = b) (f2 : h 26 2 = c) (c0 : c < b) (c1 : a < b) (c2 : a < c) {K : Int → Hh → Prop} (hK : ∀ h', (∀ x, x ≠ 26 → h' x = h x) → h' 26 0 = c → h' 26 1 = a → h' 26 2 = b → K 1 h') : w_X3_goToNext 25 3 h K := by
  obtain ⟨N, eN⟩ : ∃ N, NF = N + 1 + 1 + 1 + 1 + 1 := ⟨19995, rfl⟩
  have p0 : (c ≤ b) = True := eq_true (by omega)
  have q0 : (b ≤ c) = False := eq_false (by omega)
  have p1 : (a ≤ b) = True := eq_true (by omega)
  have q1 : (b ≤ a) = False := eq_false (by omega)
  have p2 : (a ≤ c) = True := eq_true (by omega)
  have q2 : (c ≤ a) = False := eq_false (by omega)
  simp only [w_X3_goToNext, w_X3_goToNext_31, w_X3_goToNext_67, w_X3_swap, eN, w_X3_goToNext_4, w_X3_goToNext_41, w_X3_goToNext_83, vb_p, hb_p, w32, Int.reduceAdd, Int.reduceSub, Int.reduceMod, Int.reduceNeg, Int.reduceLT, Int.reduceLE, Int.reduceGE, Int.reduceGT, Int.reduceEq, ge_iff_le, gt_iff_lt, f0, f1, f2, p0, q0, p1, q1, p2, q2, up_at, ite_true, ite_false, and_self, true_and, and_true, if_true, if_false, reduceIte]
  refine hK _ (fun x hx => ?_) ?_ ?_ ?_
  · simp only [up_ne hx]
  all_goals simp only [up_at, Int.reduceEq, f0, f1, f2, ite_true, ite_false, reduceIte]
theorem gnr3_2 {h : Hh} {a b c : Int} (f0 : h 26 0 = a) (f1 : h 26 1 = b) (f2 : h 26 2 = c) (c0 : c < b) (c1 : a < b) (c2 : c < a) {K : Int → Hh → Prop} (hK : ∀ h', (∀ x, x ≠ 26 → h' x = h x) → h' 26 0 = b → h' 26 1 = c → h' 26 2 = a → K 1 h') : w_X3_goToNext 25 3 h K := by
  obtain ⟨N, eN⟩ : ∃ N, NF = N + 1 + 1 + 1 + 1 + 1 := ⟨19995, rfl⟩
  have p0 : (c ≤ b) = True := eq_true (by omega)
  have q0 : (b ≤ c) = False := eq_false (by omega)
  have p1 : (a ≤ b) = True := eq_true (by omega)
  have q1 : (b ≤ a) = False := eq_false (by omega)
  have p2 : (c ≤ a) = True := eq_true (by omega)
  have q2 : (a ≤ c) = False := eq_false (by omega)
  simp only [w_X3_goToNext, w_X3_goToNext_31, w_X3_goToNext_67, w_X3_swap, eN, w_X3_goToNext_4, w_X3_goToNext_41, w_X3_goToNext_83, vb_p, hb_p, w32, Int.reduceAdd, Int.reduceSub, Int.reduceMod, Int.reduceNeg, Int.reduceLT, Int.reduceLE, Int.reduceGE, Int.reduceGT, Int.reduceEq, ge_iff_le, gt_iff_lt, f0, f1, f2, p0, q0, p1, q1, p2, q2, up_at, ite_true, ite_false, and_self, true_and, and_true, if_true, if_false, reduceIte]
  refine hK _ (fun x hx => ?_) ?_ ?_ ?_
  · simp only [up_ne hx]
  all_goals simp only [up_at, Int.reduceEq, f0, f1, f2, ite_true, ite_false, reduceIte]
theorem gnr3_3 {h : Hh} {a b c : Int} (f0 : h 26 0 = a) (f1 : h 26 1 = b) (f2 : h 26 2 = c) (c0 : c < b) (c1 : b < a) {K : Int → Hh → Prop} (hK : K 0 h) : w_X3_goToNext 25 3 h K := by
  obtain ⟨N, eN⟩ : ∃ N, NF = N + 1 + 1 + 1 + 1 + 1 := ⟨19995, rfl⟩
  have p0 : (c ≤ b) = True := eq_true (by omega)
  have q0 : (b ≤ c) = False := eq_false (by omega)
  have p1 : (b ≤ a) = True := eq_true (by omega)
  have q1 : (a ≤ b) = False := eq_false (by omega)
  simp only [w_X3_goToNext, w_X3_goToNext_31, w_X3_goToNext_67, w_X3_swap, eN, w_X3_goToNext_4, w_X3_goToNext_41, w_X3_goToNext_83, vb_p, hb_p, w32, Int.reduceAdd, Int.reduceSub, Int.reduceMod, Int.reduceNeg, Int.reduceLT, Int.reduceLE, Int.reduceGE, Int.reduceGT, Int.reduceEq, ge_iff_le, gt_iff_lt, f0, f1, f2, p0, q0, p1, q1, up_at, ite_true, ite_false, and_self, true_and, and_true, if_true, if_false, reduceIte]
  exact hK
theorem gnr4_0 {h : Hh} {a b c d : Int} (f0 : h 26 0 = a) (f1 : h 26 1 = b) (f2 : h 26 2 = c) (f3 : h 26 3 = d) (c0 : c < d) {K : Int → Hh → Prop} (hK : ∀ h', (∀ x, x ≠ 26 → h' x = h x) → h' 26 0 = a → h' 26 1 = b → h' 26 2 = d → h' 26 3 = c → K 1 h') : w_X3_goToNext 25 4 h K := by
  obtain ⟨N, eN⟩ : ∃ N, NF = N + 1 + 1 + 1 + 1 + 1 := ⟨19995, rfl⟩
  have p0 : (c ≤ d) = True := eq_true (by omega)
  have q0 : (d ≤ c) = False := eq_false (by omega)
  simp only [w_X3_goToNext, w_X3_goToNext_31, w_X3_goToNext_67, w_X3_swap, eN, w_X3_goToNext_4, w_X3_goToNext_41, w_X3_goToNext_83, vb_p, hb_p, w32, Int.reduceAdd, Int.reduceSub, Int.reduceMod, Int.reduceNeg, Int.reduceLT, Int.reduceLE, Int.reduceGE, Int.reduceGT, Int.reduceEq, ge_iff_le, gt_iff_lt, f0, f1, f2, f3, p0, q0, up_at, ite_true, ite_false, and_self, true_and, and_true, if_true, if_false, reduceIte]
  refine hK _ (fun x hx => ?_) ?_ ?_ ?_ ?_
  · simp only [up_ne hx]
  all_goals simp only [up_at, Int.reduceEq, f0, f1, f2, f3, ite_true, ite_false, reduceIte]
theorem gnr4_1 {h : Hh} {a b c d : Int} (f0 : h 26 0 = a) (f1 : h 26 1 = b) (f2 : h 26 2 = c) (f3 : h 26 3 = d) (c0 : d < c) (c1 : b < c) (c2 : b < d) {K : Int → Hh → Prop} (hK : ∀ h', (∀ x, x ≠ 26 → h' x = h x) → h' 26 0 = a → h' 26 1 = d → h' 26 2 = b → h' 26 3 = c → K 1 h') : w_X3_goToNext 25 4 h K := by
  obtain ⟨N, eN⟩ : ∃ N, NF = N + 1 + 1 + 1 + 1 + 1 := ⟨19995, rfl⟩
  have p0 : (d ≤ c) = True := eq_true (by omega)
  have q0 : (c ≤ d) = False := eq_false (by omega)
  have p1 : (b ≤ c) = True := eq_true (by omega)
  have q1 : (c ≤ b) = False := eq_false (by omega)
  have p2 : (b ≤ d) = True := eq_true (by omega)
  have q2 : (d ≤ b) = False := eq_false (by omega)
  simp only [w_X3_goToNext, w_X3_goToNext_31, w_X3_goToNext_67, w_X3_swap, eN, w_X3_goToNext_4, w_X3_goToNext_41, w_X3_goToNext_83, vb_p, hb_p, w32, Int.reduceAdd, Int.reduceSub, Int.reduceMod, Int.reduceNeg, Int.reduceLT, Int.reduceLE, Int.reduceGE, Int.reduceGT, Int.reduceEq, ge_iff_le, gt_iff_lt, f0, f1, f2, f3, p0, q0, p1, q1, p2, q2, up_at, ite_true, ite_false, and_self, true_and, and_true, if_true, if_false, reduceIte]
  refine hK _ (fun x hx => ?_) ?_ ?_ ?_ ?_
  · simp only [up_ne hx]
  all_goals simp only [up_at, Int.reduceEq, f0, f1, f2, f3, ite_true, ite_false, reduceIte]
theorem gnr4_2 {h : Hh} {a b c d : Int} (f0 : h 26 0 = a) (f1 : h 26 1 = b) (f2 : h 26 2 = c) (f3 : h 26 3 = d) (c0 : d < c) (c1 : b < c) (c2 : d < b) {K : Int → Hh → Prop} (hK : ∀ h', (∀ x, x ≠ 26 → h' x = h x) → h' 26 0 = a → h' 26 1 = c → h' 26 2 = d → h' 26 3 = b → K 1 h') : w_X3_goToNext 25 4 h K := by
  obtain ⟨N, eN⟩ : ∃ N, NF = N + 1 + 1 + 1 + 1 + 1 := ⟨19995, rfl⟩
  have p0 : (d ≤ c) = True := eq_true (by omega)
  have q0 : (c ≤ d) = False := eq_false (by omega)
  have p1 : (b ≤ c) = True := eq_true (by omega)
  have q1 : (c ≤ b) = False := eq_false (by omega)
  have p2 : (d ≤ b) = True := eq_true (by omega)
  have q2 : (b ≤ d) = False := eq_false (by omega)
  simp only [w_X3_goToNext, w_X3_goToNext_31, w_X3_goToNext_67, w_X3_swap, eN, w_X3_goToNext_4, w_X3_goToNext_41, w_X3_goToNext_83, vb_p, hb_p, w32, Int.reduceAdd, Int.reduceSub, Int.reduceMod, Int.reduceNeg, Int.reduceLT, Int.reduceLE, Int.reduceGE, Int.reduceGT, Int.reduceEq, ge_iff_le, gt_iff_lt, f0, f1, f2, f3, p0, q0, p1, q1, p2, q2, up_at, ite_true, ite_false, and_self, true_and, and_true, if_true, if_false, reduceIte]
  refine hK _ (fun x hx => ?_) ?_ ?_ ?_ ?_
  · simp only [up_ne hx]
  all_goals simp only [up_at, Int.reduceEq, f0, f1, f2, f3, ite_true, ite_false, reduceIte]
theorem gnr4_3 {h : Hh} {a b c d : Int} (f0 : h 26 0 = a) (f1 : h 26 1 = b) (f2 : h 26 2 = c) (f3 : h 26 3 = d) (c0 : d < c) (c1 : c < b) (c2 : a < b) (c3 : a < d) {K : Int → Hh → Prop} (hK : ∀ h', (∀ x, x ≠ 26 → h' x = h x) → h' 26 0 = d → h' 26 1 = a → h' 26 2 = c → h' 26 3 = b → K 1 h') : w_X3_goToNext 25 4 h K := by
  obtain ⟨N, eN⟩ : ∃ N, NF = N + 1 + 1 + 1 + 1 + 1 := ⟨19995, rfl⟩
  have p0 : (d ≤ c) = True := eq_true (by omega)
  have q0 : (c ≤ d) = False := eq_false (by omega)
  have p1 : (c ≤ b) = True := eq_true (by omega)
  have q1 : (b ≤ c) = False := eq_false (by omega)
  have p2 : (a ≤ b) = True := eq_true (by omega)
  have q2 : (b ≤ a) = False := eq_false (by omega)
  have p3 : (a ≤ d) = True := eq_true (by omega)
  have q3 : (d ≤ a) = False := eq_false (by omega)
  simp only [w_X3_goToNext, w_X3_goToNext_31, w_X3_goToNext_67, w_X3_swap, eN, w_X3_goToNext_4, w_X3_goToNext_41, w_X3_goToNext_83, vb_p, hb_p, w32, Int.reduceAdd, Int.reduceSub, Int.reduceMod, Int.reduceNeg, Int.reduceLT, Int.reduceLE, Int.reduceGE, Int.reduceGT, Int.reduceEq, ge_iff_le, gt_iff_lt, f0, f1, f2, f3, p0, q0, p1, q1, p2, q2, p3, q3, up_at, ite_true, ite_false, and_self, true_and, and_true, if_true, if_false, reduceIte]
  refine hK _ (fun x hx => ?_) ?_ ?_ ?_ ?_
  · simp only [up_ne hx]
  all_goals simp only [up_at, Int.reduceEq, f0, f1, f2, f3, ite_true, ite_false, reduceIte]
theorem gnr4_4 {h : Hh} {a b c d : Int} (f0 : h 26 0 = a) (f1 : h 26 1 = b) (f2 : h 26 2 = c) (f3 : h 26 3 = d) (c0 : d < c) (c1 : c < b) (c2 : a < b) (c3 : d < a) (c4 : a < c) {K : Int → Hh → Prop} (hK : ∀ h', (∀ x, x ≠ 26 → h' x = h x) → h' 26 0 = c → h' 26 1 = d → h' 26 2 = a → h' 26 3 = b → K 1 h') : w_X3_goToNext 25 4 h K := by
  obtain ⟨N, eN⟩ : ∃ N, NF = N + 1 + 1 + 1 + 1 + 1 := ⟨19995, rfl⟩
  have p0 : (d ≤ c) = True := eq_true (by omega)
  have q0 : (c ≤ d) = False := eq_false (by omega)
  have p1 : (c ≤ b) = True := eq_true (by omega)
  have q1 : (b ≤ c) = False := eq_false (by omega)
  have p2 : (a ≤ b) = True := eq_true (by omega)
  have q2 : (b ≤ a) = False := eq_false (by omega)
  have p3 : (d ≤ a) = True := eq_true (by omega)
  have q3 : (a ≤ d) = False := eq_false (by omega)
  have p4 : (a ≤ c) = True := eq_true (by omega)
  have q4 : (c ≤ a) = False := eq_false (by omega)
  simp only [w_X3_goToNext, w_X3_goToNext_31, w_X3_goToNext_67, w_X3_swap, eN, w_X3_goToNext_4, w_X3_goToNext_41, w_X3_goToNext_83, vb_p, hb_p, w32, Int.reduceAdd, Int.reduceSub, Int.reduceMod, Int.reduceNeg, Int.reduceLT, Int.reduceLE, Int.reduceGE, Int.reduceGT, Int.reduceEq, ge_iff_le, gt_iff_lt, f0, f1, f2, f3, p0, q0, p1, q1, p2, q2, p3, q3, p4, q4, up_at, ite_true, ite_false, and_self, true_and, and_true, if_true, if_false, reduceIte]
  refine hK _ (fun x hx => ?_) ?_ ?_ ?_ ?_
  · simp only [up_ne hx]
  all_goals simp only [up_at, Int.reduceEq, f0, f1, f2, f3, ite_true, ite_false, reduceIte]
theorem gnr4_5 {h : Hh} {a b c d : Int} (f0 : h 26 0 = a) (f1 : h 26 1 = b) (f2 : h 26 2 = c) (f3 : h 26 3 = d) (c0 : d < c) (c1 : c < b) (c2 : a < b) (c3 : d < a) (c4 : c < a) {K : Int → Hh → Prop} (hK : ∀ h', (∀ x, x ≠ 26 → h' x = h x) → h' 26 0 = b → h' 26 1 = d → h' 26 2 = c → h' 26 3 = a → K 1 h') : w_X3_goToNext 25 4 h K := by
  obtain ⟨N, eN⟩ : ∃ N, NF = N + 1 + 1 + 1 + 1 + 1 := ⟨19995, rfl⟩
  have p0 : (d ≤ c) = True := eq_true (by omega)
  have q0 : (c ≤ d) = False := eq_false (by omega)
  have p1 : (c ≤ b) = True := eq_true (by omega)
  have q1 : (b ≤ c) = False := eq_false (by omega)
  have p2 : (a ≤ b) = True := eq_true (by omega)
  have q2 : (b ≤ a) = False := eq_false (by omega)
  have p3 : (d ≤ a) = True := eq_true (by omega)
  have q3 : (a ≤ d) = False := eq_false (by omega)
  have p4 : (c ≤ a) = True := eq_true (by omega)
  have q4 : (a ≤ c) = False := eq_false (by omega)
  simp only [w_X3_goToNext, w_X3_goToNext_31, w_X3_goToNext_67, w_X3_swap, eN, w_X3_goToNext_4, w_X3_goToNext_41, w_X3_goToNext_83, vb_p, hb_p, w32, Int.reduceAdd, Int.reduceSub, Int.reduceMod, Int.reduceNeg, Int.reduceLT, Int.reduceLE, Int.reduceGE, Int.reduceGT, Int.reduceEq, ge_iff_le, gt_iff_lt, f0, f1, f2, f3, p0, q0, p1, q1, p2, q2, p3, q3, p4, q4, up_at, ite_true, ite_false, and_self, true_and, and_true, if_true, if_false, reduceIte]
  refine hK _ (fun x hx => ?_) ?_ ?_ ?_ ?_
  · simp only [up_ne hx]
  all_goals simp only [up_at, Int.reduceEq, f0, f1, f2, f3, ite_true, ite_false, reduceIte]
theorem gnr4_6 {h : Hh} {a b c d : Int} (f0 : h 26 0 = a) (f1 : h 26 1 = b) (f2 : h 26 2 = c) (f3 : h 26 3 = d) (c0 : d < c) (c1 : c < b) (c2 : b < a) {K : Int → Hh → Prop} (hK : K 0 h) : w_X3_goToNext 25 4 h K := by
  obtain ⟨N, eN⟩ : ∃ N, NF = N + 1 + 1 + 1 + 1 + 1 := ⟨19995, rfl⟩
  have p0 : (d ≤ c) = True := eq_true (by omega)
  have q0 : (c ≤ d) = False := eq_false (by omega)
  have p1 : (c ≤ b) = True := eq_true (by omega)
  have q1 : (b ≤ c) = False := eq_false (by omega)
  have p2 : (b ≤ a) = True := eq_true (by omega)
  have q2 : (a ≤ b) = False := eq_false (by omega)
  simp only [w_X3_goToNext, w_X3_goToNext_31, w_X3_goToNext_67, w_X3_swap, eN, w_X3_goToNext_4, w_X3_goToNext_41, w_X3_goToNext_83, vb_p, hb_p, w32, Int.reduceAdd, Int.reduceSub, Int.reduceMod, Int.reduceNeg, Int.reduceLT, Int.reduceLE, Int.reduceGE, Int.reduceGT, Int.reduceEq, ge_iff_le, gt_iff_lt, f0, f1, f2, f3, p0, q0, p1, q1, p2, q2, up_at, ite_true, ite_false, and_self, true_and, and_true, if_true, if_false, reduceIte]
  exact hK
def Nx (n a b : Int) : Prop := ∀ (h : Hh) (K : Int → Hh → Prop), (∀ k, 0 ≤ k → k < n → h 26 k = dt a (n - 1 - k)) → (∀ h', (∀ x, x ≠ 26 → h' x = h x) → (∀ k, 0 ≤ k → k < n → h' 26 k = dt b (n - 1 - k)) → K 1 h') → w_X3_goToNext 25 n h K
def Lx (n a : Int) : Prop := ∀ (h : Hh) (K : Int → Hh → Prop), (∀ k, 0 ≤ k → k < n → h 26 k = dt a (n - 1 - k)) → K 0 h → w_X3_goToNext 25 n h K
def Ch (n a : Int) : List Int → Prop
  | [] => Lx n a
  | b :: l => Nx n a b ∧ Ch n b l
theorem dig2 {f : Int → Int} {a x y : Int} (h0 : f 0 = x) (h1 : f 1 = y) (e0 : dt a 1 = x) (e1 : dt a 0 = y) : ∀ k, 0 ≤ k → k < 2 → f k = dt a (2 - 1 - k) := by
  intro k k0 k1
  rcases (by omega : k = 0 ∨ k = 1) with q | q <;> subst q
  · rw [h0]; exact e0.symm
  · rw [h1]; exact e1.symm
theorem dig3 {f : Int → Int} {a x y z : Int} (h0 : f 0 = x) (h1 : f 1 = y) (h2 : f 2 = z) (e0 : dt a 2 = x) (e1 : dt a 1 = y) (e2 : dt a 0 = z) : ∀ k, 0 ≤ k → k < 3 → f k = dt a (3 - 1 - k) := by
  intro k k0 k1
  rcases (by omega : k = 0 ∨ k = 1 ∨ k = 2) with q | q | q <;> subst q
  · rw [h0]; exact e0.symm
  · rw [h1]; exact e1.symm
  · rw [h2]; exact e2.symm
theorem dig4 {f : Int → Int} {a x y z w : Int} (h0 : f 0 = x) (h1 : f 1 = y) (h2 : f 2 = z) (h3 : f 3 = w) (e0 : dt a 3 = x) (e1 : dt a 2 = y) (e2 : dt a 1 = z) (e3 : dt a 0 = w) : ∀ k, 0 ≤ k → k < 4 → f k = dt a (4 - 1 - k) := by
  intro k k0 k1
  rcases (by omega : k = 0 ∨ k = 1 ∨ k = 2 ∨ k = 3) with q | q | q | q <;> subst q
  · rw [h0]; exact e0.symm
  · rw [h1]; exact e1.symm
  · rw [h2]; exact e2.symm
  · rw [h3]; exact e3.symm
theorem nx_12 : Nx 2 12 21 := fun h K hd hK => gnr2_0 ((hd 0 (by decide) (by decide)).trans (by decide : dt 12 (2 - 1 - 0) = 1)) ((hd 1 (by decide) (by decide)).trans (by decide : dt 12 (2 - 1 - 1) = 2)) (by decide) (fun h' e g0 g1 => hK h' e (dig2 g0 g1 (by decide) (by decide)))
theorem nx_21 : Lx 2 21 := fun h K hd hK => gnr2_1 ((hd 0 (by decide) (by decide)).trans (by decide : dt 21 (2 - 1 - 0) = 2)) ((hd 1 (by decide) (by decide)).trans (by decide : dt 21 (2 - 1 - 1) = 1)) (by decide) hK
theorem ch_2 : Ch 2 12 [21] := ⟨nx_12, nx_21⟩
theorem nx_123 : Nx 3 123 132 := fun h K hd hK => gnr3_0 ((hd 0 (by decide) (by decide)).trans (by decide : dt 123 (3 - 1 - 0) = 1)) ((hd 1 (by decide) (by decide)).trans (by decide : dt 123 (3 - 1 - 1) = 2)) ((hd 2 (by decide) (by decide)).trans (by decide : dt 123 (3 - 1 - 2) = 3)) (by decide) (fun h' e g0 g1 g2 => hK h' e (dig3 g0 g1 g2 (by decide) (by decide) (by decide)))
theorem nx_132 : Nx 3 132 213 := fun h K hd hK => gnr3_1 ((hd 0 (by decide) (by decide)).trans (by decide : dt 132 (3 - 1 - 0) = 1)) ((hd 1 (by decide) (by decide)).trans (by decide : dt 132 (3 - 1 - 1) = 3)) ((hd 2 (by decide) (by decide)).trans (by decide : dt 132 (3 - 1 - 2) = 2)) (by decide) (by decide) (by decide) (fun h' e g0 g1 g2 => hK h' e (dig3 g0 g1 g2 (by decide) (by decide) (by decide)))
theorem nx_213 : Nx 3 213 231 := fun h K hd hK => gnr3_0 ((hd 0 (by decide) (by decide)).trans (by decide : dt 213 (3 - 1 - 0) = 2)) ((hd 1 (by decide) (by decide)).trans (by decide : dt 213 (3 - 1 - 1) = 1)) ((hd 2 (by decide) (by decide)).trans (by decide : dt 213 (3 - 1 - 2) = 3)) (by decide) (fun h' e g0 g1 g2 => hK h' e (dig3 g0 g1 g2 (by decide) (by decide) (by decide)))
theorem nx_231 : Nx 3 231 312 := fun h K hd hK => gnr3_2 ((hd 0 (by decide) (by decide)).trans (by decide : dt 231 (3 - 1 - 0) = 2)) ((hd 1 (by decide) (by decide)).trans (by decide : dt 231 (3 - 1 - 1) = 3)) ((hd 2 (by decide) (by decide)).trans (by decide : dt 231 (3 - 1 - 2) = 1)) (by decide) (by decide) (by decide) (fun h' e g0 g1 g2 => hK h' e (dig3 g0 g1 g2 (by decide) (by decide) (by decide)))
theorem nx_312 : Nx 3 312 321 := fun h K hd hK => gnr3_0 ((hd 0 (by decide) (by decide)).trans (by decide : dt 312 (3 - 1 - 0) = 3)) ((hd 1 (by decide) (by decide)).trans (by decide : dt 312 (3 - 1 - 1) = 1)) ((hd 2 (by decide) (by decide)).trans (by decide : dt 312 (3 - 1 - 2) = 2)) (by decide) (fun h' e g0 g1 g2 => hK h' e (dig3 g0 g1 g2 (by decide) (by decide) (by decide)))
theorem nx_321 : Lx 3 321 := fun h K hd hK => gnr3_3 ((hd 0 (by decide) (by decide)).trans (by decide : dt 321 (3 - 1 - 0) = 3)) ((hd 1 (by decide) (by decide)).trans (by decide : dt 321 (3 - 1 - 1) = 2)) ((hd 2 (by decide) (by decide)).trans (by decide : dt 321 (3 - 1 - 2) = 1)) (by decide) (by decide) hK
theorem ch_3 : Ch 3 123 [132, 213, 231, 312, 321] := ⟨nx_123, nx_132, nx_213, nx_231, nx_312, nx_321⟩
theorem nx_1234 : Nx 4 1234 1243 := fun h K hd hK => gnr4_0 ((hd 0 (by decide) (by decide)).trans (by decide : dt 1234 (4 - 1 - 0) = 1)) ((hd 1 (by decide) (by decide)).trans (by decide : dt 1234 (4 - 1 - 1) = 2)) ((hd 2 (by decide) (by decide)).trans (by decide : dt 1234 (4 - 1 - 2) = 3)) ((hd 3 (by decide) (by decide)).trans (by decide : dt 1234 (4 - 1 - 3) = 4)) (by decide) (fun h' e g0 g1 g2 g3 => hK h' e (dig4 g0 g1 g2 g3 (by decide) (by decide) (by decide) (by decide)))
theorem nx_1243 : Nx 4 1243 1324 := fun h K hd hK => gnr4_1 ((hd 0 (by decide) (by decide)).trans (by decide : dt 1243 (4 - 1 - 0) = 1)) ((hd 1 (by decide) (by decide)).trans (by decide : dt 1243 (4 - 1 - 1) = 2)) ((hd 2 (by decide) (by decide)).trans (by decide : dt 1243 (4 - 1 - 2) = 4)) ((hd 3 (by decide) (by decide)).trans (by decide : dt 1243 (4 - 1 - 3) = 3)) (by decide) (by decide) (by decide) (fun h' e g0 g1 g2 g3 => hK h' e (dig4 g0 g1 g2 g3 (by decide) (by decide) (by decide) (by decide)))
theorem nx_1324 : Nx 4 1324 1342 := fun h K hd hK => gnr4_0 ((hd 0 (by decide) (by decide)).trans (by decide : dt 1324 (4 - 1 - 0) = 1)) ((hd 1 (by decide) (by decide)).trans (by decide : dt 1324 (4 - 1 - 1) = 3)) ((hd 2 (by decide) (by decide)).trans (by decide : dt 1324 (4 - 1 - 2) = 2)) ((hd 3 (by decide) (by decide)).trans (by decide : dt 1324 (4 - 1 - 3) = 4)) (by decide) (fun h' e g0 g1 g2 g3 => hK h' e (dig4 g0 g1 g2 g3 (by decide) (by decide) (by decide) (by decide)))
theorem nx_1342 : Nx 4 1342 1423 := fun h K hd hK => gnr4_2 ((hd 0 (by decide) (by decide)).trans (by decide : dt 1342 (4 - 1 - 0) = 1)) ((hd 1 (by decide) (by decide)).trans (by decide : dt 1342 (4 - 1 - 1) = 3)) ((hd 2 (by decide) (by decide)).trans (by decide : dt 1342 (4 - 1 - 2) = 4)) ((hd 3 (by decide) (by decide)).trans (by decide : dt 1342 (4 - 1 - 3) = 2)) (by decide) (by decide) (by decide) (fun h' e g0 g1 g2 g3 => hK h' e (dig4 g0 g1 g2 g3 (by decide) (by decide) (by decide) (by decide)))
theorem nx_1423 : Nx 4 1423 1432 := fun h K hd hK => gnr4_0 ((hd 0 (by decide) (by decide)).trans (by decide : dt 1423 (4 - 1 - 0) = 1)) ((hd 1 (by decide) (by decide)).trans (by decide : dt 1423 (4 - 1 - 1) = 4)) ((hd 2 (by decide) (by decide)).trans (by decide : dt 1423 (4 - 1 - 2) = 2)) ((hd 3 (by decide) (by decide)).trans (by decide : dt 1423 (4 - 1 - 3) = 3)) (by decide) (fun h' e g0 g1 g2 g3 => hK h' e (dig4 g0 g1 g2 g3 (by decide) (by decide) (by decide) (by decide)))
theorem nx_1432 : Nx 4 1432 2134 := fun h K hd hK => gnr4_3 ((hd 0 (by decide) (by decide)).trans (by decide : dt 1432 (4 - 1 - 0) = 1)) ((hd 1 (by decide) (by decide)).trans (by decide : dt 1432 (4 - 1 - 1) = 4)) ((hd 2 (by decide) (by decide)).trans (by decide : dt 1432 (4 - 1 - 2) = 3)) ((hd 3 (by decide) (by decide)).trans (by decide : dt 1432 (4 - 1 - 3) = 2)) (by decide) (by decide) (by decide) (by decide) (fun h' e g0 g1 g2 g3 => hK h' e (dig4 g0 g1 g2 g3 (by decide) (by decide) (by decide) (by decide)))
theorem nx_2134 : Nx 4 2134 2143 := fun h K hd hK => gnr4_0 ((hd 0 (by decide) (by decide)).trans (by decide : dt 2134 (4 - 1 - 0) = 2)) ((hd 1 (by decide) (by decide)).trans (by decide : dt 2134 (4 - 1 - 1) = 1)) ((hd 2 (by decide) (by decide)).trans (by decide : dt 2134 (4 - 1 - 2) = 3)) ((hd 3 (by decide) (by decide)).trans (by decide : dt 2134 (4 - 1 - 3) = 4)) (by decide) (fun h' e g0 g1 g2 g3 => hK h' e (dig4 g0 g1 g2 g3 (by decide) (by decide) (by decide) (by decide)))
theorem nx_2143 : Nx 4 2143 2314 := fun h K hd hK => gnr4_1 ((hd 0 (by decide) (by decide)).trans (by decide : dt 2143 (4 - 1 - 0) = 2)) ((hd 1 (by decide) (by decide)).trans (by decide : dt 2143 (4 - 1 - 1) = 1)) ((hd 2 (by decide) (by decide)).trans (by decide : dt 2143 (4 - 1 - 2) = 4)) ((hd 3 (by decide) (by decide)).trans (by decide : dt 2143 (4 - 1 - 3) = 3)) (by decide) (by decide) (by decide) (fun h' e g0 g1 g2 g3 => hK h' e (dig4 g0 g1 g2 g3 (by decide) (by decide) (by decide) (by decide)))
theorem nx_2314 : Nx 4 2314 2341 := fun h K hd hK => gnr4_0 ((hd 0 (by decide) (by decide)).trans (by decide : dt 2314 (4 - 1 - 0) = 2)) ((hd 1 (by decide) (by decide)).trans (by decide : dt 2314 (4 - 1 - 1) = 3)) ((hd 2 (by decide) (by decide)).trans (by decide : dt 2314 (4 - 1 - 2) = 1)) ((hd 3 (by decide) (by decide)).trans (by decide : dt 2314 (4 - 1 - 3) = 4)) (by decide) (fun h' e g0 g1 g2 g3 => hK h' e (dig4 g0 g1 g2 g3 (by decide) (by decide) (by decide) (by decide)))
theorem nx_2341 : Nx 4 2341 2413 := fun h K hd hK => gnr4_2 ((hd 0 (by decide) (by decide)).trans (by decide : dt 2341 (4 - 1 - 0) = 2)) ((hd 1 (by decide) (by decide)).trans (by decide : dt 2341 (4 - 1 - 1) = 3)) ((hd 2 (by decide) (by decide)).trans (by decide : dt 2341 (4 - 1 - 2) = 4)) ((hd 3 (by decide) (by decide)).trans (by decide : dt 2341 (4 - 1 - 3) = 1)) (by decide) (by decide) (by decide) (fun h' e g0 g1 g2 g3 => hK h' e (dig4 g0 g1 g2 g3 (by decide) (by decide) (by decide) (by decide)))
theorem nx_2413 : Nx 4 2413 2431 := fun h K hd hK => gnr4_0 ((hd 0 (by decide) (by decide)).trans (by decide : dt 2413 (4 - 1 - 0) = 2)) ((hd 1 (by decide) (by decide)).trans (by decide : dt 2413 (4 - 1 - 1) = 4)) ((hd 2 (by decide) (by decide)).trans (by decide : dt 2413 (4 - 1 - 2) = 1)) ((hd 3 (by decide) (by decide)).trans (by decide : dt 2413 (4 - 1 - 3) = 3)) (by decide) (fun h' e g0 g1 g2 g3 => hK h' e (dig4 g0 g1 g2 g3 (by decide) (by decide) (by decide) (by decide)))
theorem nx_2431 : Nx 4 2431 3124 := fun h K hd hK => gnr4_4 ((hd 0 (by decide) (by decide)).trans (by decide : dt 2431 (4 - 1 - 0) = 2)) ((hd 1 (by decide) (by decide)).trans (by decide : dt 2431 (4 - 1 - 1) = 4)) ((hd 2 (by decide) (by decide)).trans (by decide : dt 2431 (4 - 1 - 2) = 3)) ((hd 3 (by decide) (by decide)).trans (by decide : dt 2431 (4 - 1 - 3) = 1)) (by decide) (by decide) (by decide) (by decide) (by decide) (fun h' e g0 g1 g2 g3 => hK h' e (dig4 g0 g1 g2 g3 (by decide) (by decide) (by decide) (by decide)))
theorem nx_3124 : Nx 4 3124 3142 := fun h K hd hK => gnr4_0 ((hd 0 (by decide) (by decide)).trans (by decide : dt 3124 (4 - 1 - 0) = 3)) ((hd 1 (by decide) (by decide)).trans (by decide : dt 3124 (4 - 1 - 1) = 1)) ((hd 2 (by decide) (by decide)).trans (by decide : dt 3124 (4 - 1 - 2) = 2)) ((hd 3 (by decide) (by decide)).trans (by decide : dt 3124 (4 - 1 - 3) = 4)) (by decide) (fun h' e g0 g1 g2 g3 => hK h' e (dig4 g0 g1 g2 g3 (by decide) (by decide) (by decide) (by decide)))
theorem nx_3142 : Nx 4 3142 3214 := fun h K hd hK => gnr4_1 ((hd 0 (by decide) (by decide)).trans (by decide : dt 3142 (4 - 1 - 0) = 3)) ((hd 1 (by decide) (by decide)).trans (by decide : dt 3142 (4 - 1 - 1) = 1)) ((hd 2 (by decide) (by decide)).trans (by decide : dt 3142 (4 - 1 - 2) = 4)) ((hd 3 (by decide) (by decide)).trans (by decide : dt 3142 (4 - 1 - 3) = 2)) (by decide) (by decide) (by decide) (fun h' e g0 g1 g2 g3 => hK h' e (dig4 g0 g1 g2 g3 (by decide) (by decide) (by decide) (by decide)))
theorem nx_3214 : Nx 4 3214 3241 := fun h K hd hK => gnr4_0 ((hd 0 (by decide) (by decide)).trans (by decide : dt 3214 (4 - 1 - 0) = 3)) ((hd 1 (by decide) (by decide)).trans (by decide : dt 3214 (4 - 1 - 1) = 2)) ((hd 2 (by decide) (by decide)).trans (by decide : dt 3214 (4 - 1 - 2) = 1)) ((hd 3 (by decide) (by decide)).trans (by decide : dt 3214 (4 - 1 - 3) = 4)) (by decide) (fun h' e g0 g1 g2 g3 => hK h' e (dig4 g0 g1 g2 g3 (by decide) (by decide) (by decide) (by decide)))
theorem nx_3241 : Nx 4 3241 3412 := fun h K hd hK => gnr4_2 ((hd 0 (by decide) (by decide)).trans (by decide : dt 3241 (4 - 1 - 0) = 3)) ((hd 1 (by decide) (by decide)).trans (by decide : dt 3241 (4 - 1 - 1) = 2)) ((hd 2 (by decide) (by decide)).trans (by decide : dt 3241 (4 - 1 - 2) = 4)) ((hd 3 (by decide) (by decide)).trans (by decide : dt 3241 (4 - 1 - 3) = 1)) (by decide) (by decide) (by decide) (fun h' e g0 g1 g2 g3 => hK h' e (dig4 g0 g1 g2 g3 (by decide) (by decide) (by decide) (by decide)))
theorem nx_3412 : Nx 4 3412 3421 := fun h K hd hK => gnr4_0 ((hd 0 (by decide) (by decide)).trans (by decide : dt 3412 (4 - 1 - 0) = 3)) ((hd 1 (by decide) (by decide)).trans (by decide : dt 3412 (4 - 1 - 1) = 4)) ((hd 2 (by decide) (by decide)).trans (by decide : dt 3412 (4 - 1 - 2) = 1)) ((hd 3 (by decide) (by decide)).trans (by decide : dt 3412 (4 - 1 - 3) = 2)) (by decide) (fun h' e g0 g1 g2 g3 => hK h' e (dig4 g0 g1 g2 g3 (by decide) (by decide) (by decide) (by decide)))
theorem nx_3421 : Nx 4 3421 4123 := fun h K hd hK => gnr4_5 ((hd 0 (by decide) (by decide)).trans (by decide : dt 3421 (4 - 1 - 0) = 3)) ((hd 1 (by decide) (by decide)).trans (by decide : dt 3421 (4 - 1 - 1) = 4)) ((hd 2 (by decide) (by decide)).trans (by decide : dt 3421 (4 - 1 - 2) = 2)) ((hd 3 (by decide) (by decide)).trans (by decide : dt 3421 (4 - 1 - 3) = 1)) (by decide) (by decide) (by decide) (by decide) (by decide) (fun h' e g0 g1 g2 g3 => hK h' e (dig4 g0 g1 g2 g3 (by decide) (by decide) (by decide) (by decide)))
theorem nx_4123 : Nx 4 4123 4132 := fun h K hd hK => gnr4_0 ((hd 0 (by decide) (by decide)).trans (by decide : dt 4123 (4 - 1 - 0) = 4)) ((hd 1 (by decide) (by decide)).trans (by decide : dt 4123 (4 - 1 - 1) = 1)) ((hd 2 (by decide) (by decide)).trans (by decide : dt 4123 (4 - 1 - 2) = 2)) ((hd 3 (by decide) (by decide)).trans (by decide : dt 4123 (4 - 1 - 3) = 3)) (by decide) (fun h' e g0 g1 g2 g3 => hK h' e (dig4 g0 g1 g2 g3 (by decide) (by decide) (by decide) (by decide)))
theorem nx_4132 : Nx 4 4132 4213 := fun h K hd hK => gnr4_1 ((hd 0 (by decide) (by decide)).trans (by decide : dt 4132 (4 - 1 - 0) = 4)) ((hd 1 (by decide) (by decide)).trans (by decide : dt 4132 (4 - 1 - 1) = 1)) ((hd 2 (by decide) (by decide)).trans (by decide : dt 4132 (4 - 1 - 2) = 3)) ((hd 3 (by decide) (by decide)).trans (by decide : dt 4132 (4 - 1 - 3) = 2)) (by decide) (by decide) (by decide) (fun h' e g0 g1 g2 g3 => hK h' e (dig4 g0 g1 g2 g3 (by decide) (by decide) (by decide) (by decide)))
theorem nx_4213 : Nx 4 4213 4231 := fun h K hd hK => gnr4_0 ((hd 0 (by decide) (by decide)).trans (by decide : dt 4213 (4 - 1 - 0) = 4)) ((hd 1 (by decide) (by decide)).trans (by decide : dt 4213 (4 - 1 - 1) = 2)) ((hd 2 (by decide) (by decide)).trans (by decide : dt 4213 (4 - 1 - 2) = 1)) ((hd 3 (by decide) (by decide)).trans (by decide : dt 4213 (4 - 1 - 3) = 3)) (by decide) (fun h' e g0 g1 g2 g3 => hK h' e (dig4 g0 g1 g2 g3 (by decide) (by decide) (by decide) (by decide)))
theorem nx_4231 : Nx 4 4231 4312 := fun h K hd hK => gnr4_2 ((hd 0 (by decide) (by decide)).trans (by decide : dt 4231 (4 - 1 - 0) = 4)) ((hd 1 (by decide) (by decide)).trans (by decide : dt 4231 (4 - 1 - 1) = 2)) ((hd 2 (by decide) (by decide)).trans (by decide : dt 4231 (4 - 1 - 2) = 3)) ((hd 3 (by decide) (by decide)).trans (by decide : dt 4231 (4 - 1 - 3) = 1)) (by decide) (by decide) (by decide) (fun h' e g0 g1 g2 g3 => hK h' e (dig4 g0 g1 g2 g3 (by decide) (by decide) (by decide) (by decide)))
theorem nx_4312 : Nx 4 4312 4321 := fun h K hd hK => gnr4_0 ((hd 0 (by decide) (by decide)).trans (by decide : dt 4312 (4 - 1 - 0) = 4)) ((hd 1 (by decide) (by decide)).trans (by decide : dt 4312 (4 - 1 - 1) = 3)) ((hd 2 (by decide) (by decide)).trans (by decide : dt 4312 (4 - 1 - 2) = 1)) ((hd 3 (by decide) (by decide)).trans (by decide : dt 4312 (4 - 1 - 3) = 2)) (by decide) (fun h' e g0 g1 g2 g3 => hK h' e (dig4 g0 g1 g2 g3 (by decide) (by decide) (by decide) (by decide)))
theorem nx_4321 : Lx 4 4321 := fun h K hd hK => gnr4_6 ((hd 0 (by decide) (by decide)).trans (by decide : dt 4321 (4 - 1 - 0) = 4)) ((hd 1 (by decide) (by decide)).trans (by decide : dt 4321 (4 - 1 - 1) = 3)) ((hd 2 (by decide) (by decide)).trans (by decide : dt 4321 (4 - 1 - 2) = 2)) ((hd 3 (by decide) (by decide)).trans (by decide : dt 4321 (4 - 1 - 3) = 1)) (by decide) (by decide) (by decide) hK
theorem ch_4 : Ch 4 1234 [1243, 1324, 1342, 1423, 1432, 2134, 2143, 2314, 2341, 2413, 2431, 3124, 3142, 3214, 3241, 3412, 3421, 4123, 4132, 4213, 4231, 4312, 4321] := ⟨nx_1234, nx_1243, nx_1324, nx_1342, nx_1423, nx_1432, nx_2134, nx_2143, nx_2314, nx_2341, nx_2413, nx_2431, nx_3124, nx_3142, nx_3214, nx_3241, nx_3412, nx_3421, nx_4123, nx_4132, nx_4213, nx_4231, nx_4312, nx_4321⟩
