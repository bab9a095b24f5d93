/-! PURE 26: dues, habits: the reference's -/
theorem r_dueOf {h0 : Hh} {S : St} (x : Mx h0 S) {i : Int} (h1 : 0 ≤ i) (h2 : i < S.reps) {K : Int → Hh → Prop} (hK : ∀ h, eqM h0 h → K (S.due i) h) : w_X11_dueOf 33 i h0 K := by
  have rb := x.wf.reps
  have cb := x.wf.charts
  have r := x.wf.rep i h1 h2
  have rch := r.chart
  have ok := x.wf.chart _ r.chart.1 r.chart.2
  have rok := x.wf.rule _ ok.rule.1 ok.rule.2
  have ht := rok.terms
  unfold w_X11_dueOf
  simp only [Int.reduceAdd]
  rw [w32_id (by omega) (by omega)]
  refine r_takes (by omega) (by omega) (by omega) (by omega) (fun h3 e3 k3 hv => ?_)
  have y := x.keep e3
  rw [and_t (by omega), y.rep.rC i h1 h2, and_t (by omega), y.rep.rD i h1 h2]
  refine r_goes y r ?_ (fun h4 e4 _ => ?_)
  · intro k a1 a2
    rw [hv k a1 (by omega)]
    exact x.rep.rM i k h1 h2 a1 a2
  · have z := y.keep e4
    have fb := f_bd x.wf (d := S.rD i) r
    rw [y.rep.crule _ r.chart.1 r.chart.2]
    exact r_tenths z ok.rule (ok.many 0 (by omega) (by omega)) (by omega) (hK h4 (e3.trans e4))
/-- counting -/
theorem r_count {h0 : Hh} {S : St} (x : Mx h0 S) {b v v2 v3 v4 v5 : Int} {K : Int → Hh → Prop} {X : Int → Int → Int → Int → Int → Int → Int → Hh → Prop} (hX : ∀ h, eqM h0 h → X b v2 v3 v4 v5 v (S.T b v) h) : w_X11_habitOf_44 K X 33 NF b v2 v3 v4 v5 v 0 0 h0 := by
  have rb := x.wf.reps
  have loop : ∀ (k n : Nat) (i : Nat) (c : Int) (h : Hh), k < n → S.reps - i ≤ k → (i : Int) ≤ S.reps → eqM h0 h → c = S.cn b v i → w_X11_habitOf_44 K X 33 n b v2 v3 v4 v5 v c i h := by
    have fin : ∀ (i : Nat) (c : Int) (h : Hh), (i : Int) = S.reps → eqM h0 h → c = S.cn b v i → X b v2 v3 v4 v5 v c h := by
      intro i c h hi e hc
      rw [hc, show i = S.reps.toNat by omega]
      exact hX h e
    intro k
    induction k with
    | zero =>
      intro n i c h hn hk hi e hc
      obtain ⟨n, rfl⟩ : ∃ m, n = m + 1 := ⟨n - 1, by omega⟩
      have y := x.keep e
      rw [w_X11_habitOf_44, y.rep.reps, if_pos (by omega)]
      exact fin i c h (by omega) e hc
    | succ k ih =>
      intro n i c h hn hk hi e hc
      obtain ⟨n, rfl⟩ : ∃ m, n = m + 1 := ⟨n - 1, by omega⟩
      have y := x.keep e
      rw [w_X11_habitOf_44, y.rep.reps]
      by_cases h2 : (i : Int) ≥ S.reps
      · rw [if_pos h2]
        exact fin i c h (by omega) e hc
      · have rs := x.wf.rS i (by omega) (by omega)
        have db := due_bd x.wf (i := i) (by omega) (by omega)
        have cb := cn_bd (S := S) (b := b) (v := v) i
        have nx : ∀ (c' : Int) (h' : Hh), eqM h0 h' → c' = S.cn b v i + (if S.rB i = b ∧ S.due i ≠ -1 ∧ S.rS i - S.due i = v then 1 else 0) → w_X11_habitOf_44 K X 33 n b v2 v3 v4 v5 v c' ((i : Int) + 1) h' := fun c' h' e' hc' => ih n (i + 1) c' h' (by omega) (by omega) (by omega) e' hc'
        rw [if_neg h2, and_t (by omega)]
        simp only [Int.reduceAdd]
        simp only [y.rep.rB i (show (0 : Int) ≤ i by omega) (show (i : Int) < S.reps by omega)]
        unfold w_X11_habitOf_74 w_X11_habitOf_103 w_X11_habitOf_104
        simp only [vb_p, Int.reduceAdd]
        rw [w32_id (z := (i : Int) + 1) (by omega) (by omega), w32_id (z := c + 0) (by omega) (by omega), w32_id (z := c + 1) (by omega) (by omega)]
        by_cases q1 : S.rB i = b
        · rw [if_neg (fun w => w q1)]
          refine r_dueOf y (by omega) (by omega) (fun h3 e3 => ?_)
          have ee := e.trans e3
          have z := x.keep ee
          by_cases q2 : S.due i = -1
          · rw [if_pos q2]
            exact nx _ h3 ee (by rw [if_neg (fun w => w.2.1 q2), hc])
          · rw [if_neg q2, and_t (by omega), z.rep.rS i (by omega) (by omega), w32_id (by omega) (by omega)]
            by_cases q3 : S.rS i - S.due i = v
            · rw [if_neg (fun w => w q3)]
              exact nx _ h3 ee (by rw [if_pos ⟨q1, q2, q3⟩, hc])
            · rw [if_pos q3]
              exact nx _ h3 ee (by rw [if_neg (fun w => q3 w.2.2), hc])
        · rw [if_pos q1, if_pos (by decide)]
          exact nx _ h e (by rw [if_neg (fun w => q1 w.1), hc])
  exact loop 61 NF 0 0 h0 (by decide) (by omega) (by omega) eqM.rfl' rfl
theorem r_habitOf {h0 : Hh} {S : St} (x : Mx h0 S) (b : Int) {K : Int → Hh → Prop} (hK : ∀ h, eqM h0 h → K (S.hab b) h) : w_X11_habitOf 33 b h0 K := by
  unfold w_X11_habitOf
  -- one far: both sides
  have T0 : ∀ v, 0 ≤ S.T b v := fun v => (cn_bd _).1
  have pair : ∀ (X : Int → Int → Int → Int → Hh → Prop) (far g most : Int) (h : Hh), 0 ≤ far → far ≤ 9 → eqM h0 h → (∀ h', eqM h0 h' → X b (if S.T b far > (if S.T b (-far) > most then S.T b (-far) else most) then far else if S.T b (-far) > most then -far else g) (if S.T b far > (if S.T b (-far) > most then S.T b (-far) else most) then S.T b far else if S.T b (-far) > most then S.T b (-far) else most) far h') → w_X11_habitOf_17 K X 33 NF b g most far 0 h := by
    intro X far g most h f1 f2 e hX
    have eN : NF = 19997 + 1 + 1 + 1 := rfl
    generalize hN : (19997 : Nat) = N at eN
    rw [eN, w_X11_habitOf_17, if_neg (by decide), if_neg (by decide), w32_id (by omega) (by omega)]
    unfold w_X11_habitOf_36
    refine r_count (x.keep e) (fun h1 e1 => ?_)
    have ee1 := e.trans e1
    unfold w_X11_habitOf_128
    simp only [vb_p, Int.reduceAdd]
    rw [show w32 1 = 1 from rfl]
    have snd : ∀ g1 m1 : Int, (∀ h', eqM h0 h' → X b (if S.T b far > m1 then far else g1) (if S.T b far > m1 then S.T b far else m1) far h') → w_X11_habitOf_17 K X 33 (N + 1 + 1) b g1 m1 far 1 h1 := by
      intro g1 m1 hX1
      rw [w_X11_habitOf_17, if_neg (by decide), if_pos (by decide)]
      unfold w_X11_habitOf_36
      refine r_count (x.keep ee1) (fun h2 e2 => ?_)
      have ee2 := ee1.trans e2
      unfold w_X11_habitOf_128
      simp only [vb_p, Int.reduceAdd]
      rw [show w32 2 = 2 from rfl]
      have g := hX1 h2 ee2
      by_cases q : S.T b far > m1
      · rw [if_pos q]
        rw [if_pos q, if_pos q] at g
        rw [w_X11_habitOf_17, if_pos (by decide)]
        exact g
      · rw [if_neg q]
        rw [if_neg q, if_neg q] at g
        rw [w_X11_habitOf_17, if_pos (by decide)]
        exact g
    by_cases q : S.T b (-far) > most
    · rw [if_pos q]
      simp only [if_pos q] at hX
      exact snd _ _ hX
    · rw [if_neg q]
      simp only [if_neg q] at hX
      exact snd _ _ hX
  have loop : ∀ (k n : Nat) (far g most : Int) (h : Hh), k < n → 10 - far = k → 1 ≤ far → far ≤ 10 → g = hbF (S.T b) (far - 1).toNat → most = S.T b g → eqM h0 h → w_X11_habitOf_7 K 33 n b g most far h := by
    intro k
    induction k with
    | zero =>
      intro n far g most h hn hk h1 h2 hg hm e
      obtain ⟨n, rfl⟩ : ∃ m, n = m + 1 := ⟨n - 1, by omega⟩
      have ef : far = 10 := by omega
      subst ef
      rw [w_X11_habitOf_7, if_pos (by omega), hg]
      exact hK h e
    | succ k ih =>
      intro n far g most h hn hk h1 h2 hg hm e
      obtain ⟨n, rfl⟩ : ∃ m, n = m + 1 := ⟨n - 1, by omega⟩
      have nx : hbF (S.T b) (far + 1 - 1).toNat = hbS (S.T b) g far := by
        rw [show (far + 1 - 1).toNat = (far - 1).toNat + 1 by omega]
        show hbS (S.T b) (hbF (S.T b) (far - 1).toNat) (((far - 1).toNat : Nat) + 1) = _
        rw [← hg, show ((((far - 1).toNat : Nat)) : Int) + 1 = far by omega]
      rw [w_X11_habitOf_7, if_neg (by omega)]
      refine pair _ far g most h (by omega) (by omega) e (fun h' e' => ?_)
      simp only [vb_p]
      rw [w32_id (by omega) (by omega)]
      refine ih n (far + 1) _ _ h' (by omega) (by omega) (by omega) (by omega) ?_ ?_ e'
      · rw [nx, hm]
        unfold hbS
        by_cases q : S.T b (-far) > S.T b g
        · simp only [if_pos q]
        · simp only [if_neg q]
      · rw [hm]
        by_cases q : S.T b (-far) > S.T b g
        · simp only [if_pos q]
          by_cases q2 : S.T b far > S.T b (-far)
          · simp only [if_pos q2]
          · simp only [if_neg q2]
        · simp only [if_neg q]
          by_cases q2 : S.T b far > S.T b g
          · simp only [if_pos q2]
          · simp only [if_neg q2]
  have eN : NF = 19999 + 1 := rfl
  generalize hN : (19999 : Nat) = N at eN
  rw [eN, w_X11_habitOf_7, if_neg (by decide)]
  refine pair _ 0 0 0 h0 (by omega) (by omega) eqM.rfl' (fun h' e' => ?_)
  simp only [vb_p]
  rw [w32_id (by omega) (by omega)]
  have t0 := T0 0
  refine loop 9 N _ _ _ h' (by omega) (by omega) (by omega) (by omega) ?_ ?_ e'
  · show _ = (0 : Int)
    simp only [Int.neg_zero, ite_self]
  · simp only [Int.neg_zero, ite_self]
    by_cases q : S.T b 0 > 0
    · simp only [if_pos q]
      rw [if_neg (by omega)]
    · simp only [if_neg q]
      omega
theorem r_stands {h0 : Hh} {S : St} (x : Mx h0 S) {i bd : Int} (h1 : 0 ≤ i) (h2 : i < S.reps) {K : Int → Hh → Prop} (hK : ∀ h, eqM h0 h → K (S.bad bd i) h) : w_X11_stands 33 i bd h0 K := by
  have rb := x.wf.reps
  have rs := x.wf.rS i h1 h2
  have db := due_bd x.wf h1 h2
  have hb := hab_bd S (S.rB i)
  unfold w_X11_stands
  refine r_dueOf x h1 h2 (fun h3 e3 => ?_)
  have y := x.keep e3
  by_cases q : S.due i = -1
  · rw [if_neg (fun w => w q)]
    have g := hK h3 e3
    unfold St.bad at g
    rw [if_pos q] at g
    exact g
  · rw [if_pos q, and_t (by omega)]
    simp only [Int.reduceAdd, vb_p]
    rw [y.rep.rB i h1 h2]
    refine r_habitOf y _ (fun h4 e4 => ?_)
    have g := hK h4 (e3.trans e4)
    unfold St.bad at g
    rw [if_neg q] at g
    unfold w_X11_stands_47 w_X11_stands_52
    rw [y.rep.rS i h1 h2, w32_id (z := S.rS i - S.due i) (by omega) (by omega), w32_id (z := S.rS i - S.due i - S.hab (S.rB i)) (by omega) (by omega), w32_id (z := -(S.rS i - S.due i - S.hab (S.rB i))) (by omega) (by omega)]
    by_cases q1 : S.rS i - S.due i - S.hab (S.rB i) > bd
    · rw [if_pos q1]; rw [if_pos (Or.inl q1)] at g; exact g
    · rw [if_neg q1]
      by_cases q2 : -(S.rS i - S.due i - S.hab (S.rB i)) > bd
      · rw [if_neg (by omega)]; rw [if_pos (Or.inr q2)] at g; exact g
      · rw [if_pos (by omega)]; rw [if_neg (by omega)] at g; exact g
theorem a_due (i bd w : Int) : Agree (w_X10_due 0 i bd w) (w_X11_due 33 i bd w) := by
  refine agree_q2 (rDue i bd w) (due_C i bd w) ?_
  intro h S x K hK
  have rb := x.wf.reps
  unfold rDue VOID at hK
  unfold w_X11_due w_X11_due_38 w_X11_due_68
  rw [x.rep.reps, w32_id (by omega) (by omega), e_in]
  by_cases h1 : 0 ≤ i ∧ i < S.reps
  · rw [if_pos (show 0 ≤ i ∧ i ≤ S.reps - 1 by omega), if_neg (by decide), e_in]
    by_cases h2 : 0 ≤ bd ∧ bd ≤ 20
    · rw [if_pos h2, if_neg (by decide), e_in]
      by_cases h3 : 0 ≤ w ∧ w ≤ 1
      · rw [if_pos ⟨h1, h2, h3⟩] at hK
        rw [if_pos h3, if_pos (by decide)]
        by_cases w0 : w = 0
        · rw [if_neg (fun q => q w0)]
          rw [if_pos w0] at hK
          exact r_dueOf x h1.1 h1.2 hK
        · rw [if_pos w0]
          rw [if_neg w0] at hK
          refine r_stands x h1.1 h1.2 (fun h4 e4 => ?_)
          have g := hK h4 e4
          by_cases q : S.bad bd i = 1
          · rw [if_neg (fun w => w q)]; rw [if_pos q] at g; exact g
          · rw [if_pos q]; rw [if_neg q] at g; exact g
      · rw [if_neg (fun q => h3 q.2.2)] at hK
        rw [if_neg h3, if_neg (by decide)]
        exact hK h eqM.rfl'
    · rw [if_neg (fun q => h2 q.2.1)] at hK
      rw [if_neg h2, if_pos rfl]
      exact hK h eqM.rfl'
  · rw [if_neg (fun q => h1 q.1)] at hK
    rw [if_neg (show ¬ (0 ≤ i ∧ i ≤ S.reps - 1) by omega), if_pos rfl]
    exact hK h eqM.rfl'
theorem a_habit (i : Int) : Agree (w_X10_habit 0 i) (w_X11_habit 33 i) := by
  refine agree_q2 (rHabit i) (habit_C i) ?_
  intro h S x K hK
  unfold rHabit VOID at hK
  unfold w_X11_habit w_X11_habit_22
  rw [e_in]
  by_cases h1 : 0 ≤ i ∧ i ≤ 7
  · rw [if_pos h1, if_neg (by decide)]
    rw [if_pos h1] at hK
    exact r_habitOf x _ hK
  · rw [if_neg h1, if_pos rfl]
    rw [if_neg h1] at hK
    exact hK h eqM.rfl'
