/-! PURE 14: told, mark, count, swelled -/
theorem b_ruleAt {h : Hh} {S : St} (b : Both h S) (n : Int) (K : Int → Hh → Prop) : w_X10_ruleAt 0 n h K = K (if 0 ≤ n ∧ n < S.rules then h 6 n else -1) h := by
  have q := b.w.rules
  have e := b.c.rules
  rw [e_ruleAt (by omega), e]
  rfl
theorem b_chartAt {h : Hh} {S : St} (b : Both h S) (n : Int) (K : Int → Hh → Prop) : w_X10_chartAt 0 n h K = K (if 0 ≤ n ∧ n < S.charts then h 7 n else -1) h := by
  have q := b.w.charts
  have e := b.c.charts
  rw [e_chartAt (by omega), e]
  rfl
theorem m_isChart {h : Hh} {S : St} (x : Mx h S) (n : Int) (K : Int → Hh → Prop) : w_X11_isChart 33 n h K = K (if 0 ≤ n ∧ n < S.charts then 1 else 0) h := by
  have q := x.wf.charts
  have e := x.rep.charts
  rw [e_isChart (by omega), e]
theorem Both.cx {h : Hh} {S : St} (b : Both h S) {c : Int} (hc : 0 ≤ c ∧ c < S.charts) : Cx4 h S c := ⟨b.c, b.w, hc⟩
def VOID : Int := -2147483648
def rTold (j w : Int) (S : St) : Int := if 0 ≤ j ∧ j < S.rules then (if w = 0 then S.terms j else if w = 1 then S.const j else if 10 ≤ w ∧ w < 20 ∧ w - 10 < S.terms j then S.kind j (w - 10) else if 20 ≤ w ∧ w < 30 ∧ w - 20 < S.terms j then S.sign j (w - 20) else VOID) else VOID
theorem told_C (j w : Int) (h : Hh) (S : St) (b : Both h S) (K : Int → Hh → Prop) (hK : ∀ h', eqW h h' → K (rTold j w S) h') : w_X10_told 0 j w h K := by
  have hK := hK h eqW.rfl'
  unfold rTold VOID at hK
  unfold w_X10_told w_X10_told_53 w_X10_told_74
  rw [b_ruleAt b]
  by_cases hj : 0 ≤ j ∧ j < S.rules
  · have ok := b.w.rule j hj.1 hj.2
    have rc := b.c.rule j hj.1 hj.2
    have ra := (b.c.ra j hj.1 hj.2).1
    have ht := ok.terms
    rw [if_pos hj] at hK ⊢
    rw [if_pos (by omega)]
    simp only [and_t (show 0 ≤ h 6 j by omega), rc.terms, rc.const, c_kindOf rc ok, c_signOf rc ok]
    by_cases w0 : w = 0
    · rw [if_neg (fun q => q w0)]; rw [if_pos w0] at hK; exact hK
    · rw [if_pos w0]; rw [if_neg w0] at hK
      by_cases w1 : w = 1
      · rw [if_neg (fun q => q w1)]; rw [if_pos w1] at hK; exact hK
      · rw [if_pos w1]; rw [if_neg w1] at hK
        by_cases w2 : w < 10
        · rw [if_pos w2, if_pos (by omega)]
          rw [if_neg (by omega), if_neg (by omega)] at hK
          exact hK
        · rw [if_neg w2]
          by_cases w3 : w ≥ 20
          · rw [if_pos w3, if_neg (by omega)]
            rw [if_neg (by omega)] at hK
            by_cases w4 : w ≥ 30
            · rw [if_pos w4]
              rw [if_neg (by omega)] at hK
              exact hK
            · rw [if_neg w4, w32_id (by omega) (by omega)]
              by_cases w5 : w - 20 < S.terms j
              · rw [if_pos (by omega)]; rw [if_pos (by omega)] at hK; exact hK
              · rw [if_neg (by omega)]; rw [if_neg (by omega)] at hK; exact hK
          · rw [if_neg w3, w32_id (by omega) (by omega)]
            by_cases w5 : w - 10 < S.terms j
            · rw [if_pos (by omega)]; rw [if_pos (by omega)] at hK; exact hK
            · rw [if_neg (by omega)]; rw [if_neg (by omega), if_neg (by omega)] at hK; exact hK
  · rw [if_neg hj] at hK ⊢
    rw [if_neg (by decide)]
    exact hK
theorem told_M (j w : Int) (h : Hh) (S : St) (x : Mx h S) (K : Int → Hh → Prop) (hK : ∀ h', eqM h h' → K (rTold j w S) h') : w_X11_told 33 j w h K := by
  have hK := hK h eqM.rfl'
  have q := x.wf.rules
  unfold rTold VOID at hK
  unfold w_X11_told w_X11_told_70 w_X11_told_102
  rw [x.rep.rules, w32_id (by omega) (by omega), e_in]
  simp only [Int.reduceAdd, vb_p]
  by_cases hj : 0 ≤ j ∧ j < S.rules
  · have ok := x.wf.rule j hj.1 hj.2
    have ht := ok.terms
    rw [if_pos hj] at hK
    rw [if_pos (show 0 ≤ j ∧ j ≤ S.rules - 1 by omega), if_pos (by decide)]
    rw [x.rep.terms j hj.1 hj.2, x.rep.const j hj.1 hj.2]
    by_cases w0 : w = 0
    · rw [if_neg (fun q => q w0), and_t (by omega)]; rw [if_pos w0] at hK; exact hK
    · rw [if_pos w0]; rw [if_neg w0] at hK
      by_cases w1 : w = 1
      · rw [if_neg (fun q => q w1), and_t (by omega)]; rw [if_pos w1] at hK; exact hK
      · rw [if_pos w1]; rw [if_neg w1] at hK
        rw [e_in]
        by_cases w2 : 10 ≤ w ∧ w ≤ 29
        · rw [if_pos w2, if_neg (by decide), r_isTerm x]
          have tm : Int.tmod w 10 = w % 10 := Int.tmod_eq_emod_of_nonneg (by omega)
          rw [tm, w32_id (z := 5 * j) (by omega) (by omega), w32_id (z := 5 * j + w % 10) (by omega) (by omega)]
          by_cases w3 : w < 20
          · have ew : w % 10 = w - 10 := by omega
            rw [ew]
            by_cases w5 : w - 10 < S.terms j
            · rw [if_pos (show (0 ≤ j ∧ j < S.rules) ∧ 0 ≤ w - 10 ∧ w - 10 < S.terms j by omega), if_pos (by decide), if_neg (by omega), and_t (by omega), x.rep.kind j (w - 10) hj.1 hj.2 (by omega) w5]
              rw [if_pos (by omega)] at hK; exact hK
            · rw [if_neg (show ¬ ((0 ≤ j ∧ j < S.rules) ∧ 0 ≤ w - 10 ∧ w - 10 < S.terms j) by omega), if_neg (by decide)]
              rw [if_neg (by omega), if_neg (by omega)] at hK; exact hK
          · have ew : w % 10 = w - 20 := by omega
            rw [ew]
            rw [if_neg (by omega)] at hK
            by_cases w5 : w - 20 < S.terms j
            · rw [if_pos (show (0 ≤ j ∧ j < S.rules) ∧ 0 ≤ w - 20 ∧ w - 20 < S.terms j by omega), if_pos (by decide), if_pos (by omega), and_t (by omega), x.rep.sign j (w - 20) hj.1 hj.2 (by omega) w5]
              rw [if_pos (by omega)] at hK; exact hK
            · rw [if_neg (show ¬ ((0 ≤ j ∧ j < S.rules) ∧ 0 ≤ w - 20 ∧ w - 20 < S.terms j) by omega), if_neg (by decide)]
              rw [if_neg (by omega)] at hK; exact hK
        · rw [if_neg w2, if_pos rfl]
          rw [if_neg (by omega), if_neg (by omega)] at hK
          exact hK
  · rw [if_neg hj] at hK
    rw [if_neg (show ¬ (0 ≤ j ∧ j ≤ S.rules - 1) by omega), if_neg (by decide)]
    exact hK
theorem a_told (j w : Int) : Agree (w_X10_told 0 j w) (w_X11_told 33 j w) := agree_q (rTold j w) (told_C j w) (told_M j w)
def rMark (j t m : Int) (S : St) : Int := if (0 ≤ j ∧ j < S.rules) ∧ (0 ≤ t ∧ t < S.terms j) ∧ 0 ≤ m ∧ m < S.many j t then S.val j t m else VOID
theorem mark_C (j t m : Int) (h : Hh) (S : St) (b : Both h S) (K : Int → Hh → Prop) (hK : ∀ h', eqW h h' → K (rMark j t m S) h') : w_X10_mark 0 j t m h K := by
  have hK := hK h eqW.rfl'
  unfold rMark VOID at hK
  unfold w_X10_mark
  rw [b_ruleAt b]
  by_cases hj : 0 ≤ j ∧ j < S.rules
  · have ok := b.w.rule j hj.1 hj.2
    have rc := b.c.rule j hj.1 hj.2
    have ra := (b.c.ra j hj.1 hj.2).1
    have ht := ok.terms
    rw [if_pos hj]
    by_cases hm : (0 ≤ t ∧ t < S.terms j) ∧ 0 ≤ m ∧ m < S.many j t
    · rw [if_pos ⟨hj, hm⟩] at hK
      simp only [w_X10_mark_22, and_t (show 0 ≤ h 6 j by omega), c_hasMark rc ok]
      rw [if_neg (by omega), if_pos hm, if_pos (by decide), c_numberOf rc ok hm.1.1 hm.1.2 hm.2.1 hm.2.2]
      exact hK
    · rw [if_neg (fun q => hm q.2)] at hK
      simp only [w_X10_mark_22, and_t (show 0 ≤ h 6 j by omega), c_hasMark rc ok]
      rw [if_neg (by omega), if_neg hm, if_neg (by decide)]
      exact hK
  · rw [if_neg hj, if_pos (by decide)]
    rw [if_neg (fun q => hj q.1)] at hK
    exact hK
theorem mark_M (j t m : Int) (h : Hh) (S : St) (x : Mx h S) (K : Int → Hh → Prop) (hK : ∀ h', eqM h h' → K (rMark j t m S) h') : w_X11_mark 33 j t m h K := by
  have hK := hK h eqM.rfl'
  have q := x.wf.rules
  unfold rMark VOID at hK
  unfold w_X11_mark w_X11_mark_41 w_X11_mark_43
  rw [r_isTerm x]
  simp only [Int.reduceAdd]
  by_cases hj : (0 ≤ j ∧ j < S.rules) ∧ 0 ≤ t ∧ t < S.terms j
  · have ok := x.wf.rule j hj.1.1 hj.1.2
    have ht := ok.terms
    have mm := many_le ok hj.2.1 hj.2.2
    rw [if_pos hj, if_neg (by decide), w32_id (z := 5 * j) (by omega) (by omega), w32_id (z := 5 * j + t) (by omega) (by omega), and_t (by omega), x.rep.many j t hj.1.1 (by omega) hj.2.1 (by omega), w32_id (by omega) (by omega), e_in]
    by_cases hm : 0 ≤ m ∧ m < S.many j t
    · rw [if_pos ⟨hj.1, hj.2, hm⟩] at hK
      rw [if_pos (show 0 ≤ m ∧ m ≤ S.many j t - 1 by omega), if_neg (by decide), r_valueOf x hj.1 hj.2 hm]
      exact hK
    · rw [if_neg (fun q => hm q.2.2)] at hK
      rw [if_neg (show ¬ (0 ≤ m ∧ m ≤ S.many j t - 1) by omega), if_pos rfl]
      exact hK
  · rw [if_neg (fun q => hj ⟨q.1, q.2.1⟩)] at hK
    rw [if_neg hj, if_pos rfl]
    exact hK
theorem a_mark (j t m : Int) : Agree (w_X10_mark 0 j t m) (w_X11_mark 33 j t m) := agree_q (rMark j t m) (mark_C j t m) (mark_M j t m)
def rCount (w : Int) (S : St) : Int := if w = 0 then S.now else if w = 1 then S.rules else if w = 2 then S.charts else if w = 3 then S.moves else if w = 4 then S.reps else if w = 5 then S.listed else if w = 6 then S.size else if w = 7 then S.rdC else -1
theorem a_count (w : Int) : Agree (w_X10_count 0 w) (w_X11_count 33 w) := by
  refine agree_q (rCount w) ?_ ?_
  · intro h S b K hK
    have hK := hK h eqW.rfl'
    unfold rCount at hK
    unfold w_X10_count w_X10_count_110
    simp only [Int.reduceAdd]
    rw [b.c.now, b.c.rules, b.c.charts, b.c.moves, b.c.reps, b.c.listed, b.c.size]
    by_cases h7 : w = 7
    · subst h7
      simp only [show ¬ ((7 : Int) = 0) by decide, show ¬ ((7 : Int) = 1) by decide, show ¬ ((7 : Int) = 2) by decide, show ¬ ((7 : Int) = 3) by decide, show ¬ ((7 : Int) = 4) by decide, show ¬ ((7 : Int) = 5) by decide, show ¬ ((7 : Int) = 6) by decide, ite_true, ite_false] at hK ⊢
      have e := b.c.rdC
      rcases b.w.rd with hr | hr
      · rw [if_pos hr] at e
        rw [if_neg (fun q => q e)]
        rw [hr] at hK
        exact hK
      · have cc := b.c.chart _ hr.chart.1 hr.chart.2
        have ca := (b.c.ca _ hr.chart.1 hr.chart.2).1
        have := hr.chart
        rw [if_neg (by omega)] at e
        rw [e, if_pos (by omega), and_t (by omega), cc.number]
        exact hK
    · rw [if_neg h7] at hK ⊢
      revert hK
      repeat' split
      all_goals exact id
  · intro h S x K hK
    have hK := hK h eqM.rfl'
    unfold rCount at hK
    unfold w_X11_count
    rw [x.rep.now, x.rep.rules, x.rep.charts, x.rep.moves, x.rep.reps, x.rep.listed, x.rep.size, x.rep.rdC]
    revert hK
    repeat' split
    all_goals exact id
noncomputable def rSwelled (c y k : Int) (S : St) : Int := if (0 ≤ c ∧ c < S.charts) ∧ -100000 ≤ y ∧ y ≤ 100000 then (if k = 0 then w32 (S.lie c y) else w32 (S.bak c y)) else VOID
theorem a_swelled (c y k : Int) : Agree (w_X10_swelled 0 c y k) (w_X11_swelled 33 c y k) := by
  refine agree_q (rSwelled c y k) ?_ ?_
  · intro h S b K hK
    have hK := hK h eqW.rfl'
    unfold rSwelled VOID at hK
    unfold w_X10_swelled
    rw [b_chartAt b]
    by_cases hc : 0 ≤ c ∧ c < S.charts
    · have x := b.cx hc
      have ca := x.ca
      have cc := x.cc
      have pp := x.wf.papr c
      simp only [w_X10_swelled_26, w_X10_swelled_56, Int.reduceNeg]
      rw [if_pos hc, if_neg (by omega)]
      by_cases hy : -100000 ≤ y ∧ y ≤ 100000
      · rw [if_pos ⟨hc, hy⟩] at hK
        have g1 : w_X4_lies (h 7 c + 6) y h = fun K => K (S.lie c y) h := by
          funext K
          rw [e_lies (by rw [cc.seam, cc.low, cc.upp]; exact pp) (by omega), cc.seam, cc.low, cc.upp]
          rfl
        rw [if_neg (by omega), if_pos (by omega)]
        by_cases hk : k = 0
        · rw [if_pos hk] at hK ⊢
          rw [and_t (by omega), g1]
          exact hK
        · rw [if_neg hk] at hK ⊢
          rw [and_t (by omega)]
          refine e_place (z := S.bak c y) (by rw [cc.seam, cc.low, cc.upp]; exact pp) (by omega) (by rw [cc.seam, cc.low, cc.upp]; exact bkf_is pp (by omega)) ?_
          exact hK
      · rw [if_neg (fun q => hy q.2)] at hK
        by_cases h1 : y < -100000
        · rw [if_pos h1]; exact hK
        · rw [if_neg h1, if_neg (by omega)]; exact hK
    · rw [if_neg hc, if_pos (by decide)]
      rw [if_neg (fun q => hc q.1)] at hK
      exact hK
  · intro h S x K hK
    have hK := hK h eqM.rfl'
    have q := x.wf.charts
    unfold rSwelled VOID at hK
    unfold w_X11_swelled
    rw [m_isChart x]
    by_cases hc : 0 ≤ c ∧ c < S.charts
    · rw [if_pos hc, if_neg (by decide), e_in]
      by_cases hy : -100000 ≤ y ∧ y ≤ 100000
      · rw [if_pos ⟨hc, hy⟩] at hK
        rw [if_pos hy, if_pos (by decide)]
        by_cases hk : k = 0
        · rw [if_pos hk] at hK ⊢
          rw [r_swells x (by omega) (by omega)]
          exact hK
        · rw [if_neg hk] at hK ⊢
          exact r_back x (by omega) (by omega) hK
      · rw [if_neg (fun q => hy q.2)] at hK
        rw [if_neg hy, if_neg (by decide)]
        exact hK
    · rw [if_neg (fun q => hc q.1)] at hK
      rw [if_neg hc, if_pos rfl]
      exact hK
