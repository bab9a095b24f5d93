/-! PURE 9: a Rule's own methods -/
section
variable {h : Hh} {R j : Int} {S : St}
theorem c_hasTerm (rc : RuleC h R S j) (ok : RuleOk S j) (t : Int) (K : Int → Hh → Prop) : w_X7_hasTerm R t h K = K (if 0 ≤ t ∧ t < S.terms j then 1 else 0) h := by
  have q := ok.terms
  unfold w_X7_hasTerm w_X7_hasTerm_21 w_X7_hasTerm_22
  rw [rc.terms]
  by_cases h1 : 0 ≤ t ∧ t < S.terms j
  · simp (disch := omega) only [vb_p, hb_p, w32_id, w64_id, if_pos, if_neg, and_t, Int.reduceAdd, Int.reduceMul, Int.reduceSub, Int.reduceNeg, Int.zero_add, ite_true, ite_false]; simp
  · rw [if_neg h1]
    by_cases h2 : t < 0
    · simp (disch := omega) only [vb_p, hb_p, w32_id, w64_id, if_pos, if_neg, and_t, Int.reduceAdd, Int.reduceMul, Int.reduceSub, Int.reduceNeg, Int.zero_add, ite_true, ite_false]; simp
    · simp (disch := omega) only [vb_p, hb_p, w32_id, w64_id, if_pos, if_neg, and_t, Int.reduceAdd, Int.reduceMul, Int.reduceSub, Int.reduceNeg, Int.zero_add, ite_true, ite_false]; simp
theorem c_kindOf (rc : RuleC h R S j) (ok : RuleOk S j) (t : Int) (K : Int → Hh → Prop) : w_X7_kindOf R t h K = K (if 0 ≤ t ∧ t < S.terms j then S.kind j t else -2147483648) h := by
  have q := ok.terms
  unfold w_X7_kindOf w_X7_kindOf_19
  rw [c_hasTerm rc ok]
  by_cases h1 : 0 ≤ t ∧ t < S.terms j
  · simp (disch := omega) only [vb_p, hb_p, w32_id, w64_id, if_pos, if_neg, and_t, Int.reduceAdd, Int.reduceMul, Int.reduceSub, Int.reduceNeg, Int.zero_add, ite_true, ite_false, rc.kind]
  · simp only [if_neg h1]; simp (disch := omega) only [vb_p, hb_p, w32_id, w64_id, if_pos, if_neg, and_t, Int.reduceAdd, Int.reduceMul, Int.reduceSub, Int.reduceNeg, Int.zero_add, ite_true, ite_false]
theorem c_signOf (rc : RuleC h R S j) (ok : RuleOk S j) (t : Int) (K : Int → Hh → Prop) : w_X7_signOf R t h K = K (if 0 ≤ t ∧ t < S.terms j then S.sign j t else -2147483648) h := by
  have q := ok.terms
  unfold w_X7_signOf w_X7_signOf_19
  rw [c_hasTerm rc ok]
  by_cases h1 : 0 ≤ t ∧ t < S.terms j
  · simp (disch := omega) only [vb_p, hb_p, w32_id, w64_id, if_pos, if_neg, and_t, Int.reduceAdd, Int.reduceMul, Int.reduceSub, Int.reduceNeg, Int.zero_add, ite_true, ite_false, rc.sign]
  · simp only [if_neg h1]; simp (disch := omega) only [vb_p, hb_p, w32_id, w64_id, if_pos, if_neg, and_t, Int.reduceAdd, Int.reduceMul, Int.reduceSub, Int.reduceNeg, Int.zero_add, ite_true, ite_false]
theorem c_hasMark (rc : RuleC h R S j) (ok : RuleOk S j) (t m : Int) (K : Int → Hh → Prop) : w_X7_hasMark R t m h K = K (if (0 ≤ t ∧ t < S.terms j) ∧ 0 ≤ m ∧ m < S.many j t then 1 else 0) h := by
  have q := ok.terms
  unfold w_X7_hasMark w_X7_hasMark_26 w_X7_hasMark_27
  rw [c_hasTerm rc ok]
  by_cases h1 : 0 ≤ t ∧ t < S.terms j
  · by_cases h2 : 0 ≤ m
    · by_cases h3 : m < S.many j t
      · simp (disch := omega) only [vb_p, hb_p, w32_id, w64_id, if_pos, if_neg, and_t, Int.reduceAdd, Int.reduceMul, Int.reduceSub, Int.reduceNeg, Int.zero_add, ite_true, ite_false, rc.many]; simp
      · rw [if_neg (show ¬ ((0 ≤ t ∧ t < S.terms j) ∧ 0 ≤ m ∧ m < S.many j t) by omega)]
        simp (disch := omega) only [vb_p, hb_p, w32_id, w64_id, if_pos, if_neg, and_t, Int.reduceAdd, Int.reduceMul, Int.reduceSub, Int.reduceNeg, Int.zero_add, ite_true, ite_false, rc.many]; simp
    · rw [if_neg (show ¬ ((0 ≤ t ∧ t < S.terms j) ∧ 0 ≤ m ∧ m < S.many j t) by omega)]
      simp (disch := omega) only [vb_p, hb_p, w32_id, w64_id, if_pos, if_neg, and_t, Int.reduceAdd, Int.reduceMul, Int.reduceSub, Int.reduceNeg, Int.zero_add, ite_true, ite_false]; simp
  · rw [if_neg (show ¬ ((0 ≤ t ∧ t < S.terms j) ∧ 0 ≤ m ∧ m < S.many j t) by omega)]
    simp only [if_neg h1]; simp (disch := omega) only [vb_p, hb_p, w32_id, w64_id, if_pos, if_neg, and_t, Int.reduceAdd, Int.reduceMul, Int.reduceSub, Int.reduceNeg, Int.zero_add, ite_true, ite_false]; simp
theorem many_le (ok : RuleOk S j) {t : Int} (h1 : 0 ≤ t) (h2 : t < S.terms j) : 0 ≤ S.many j t ∧ S.many j t ≤ 40 := by
  have := ok.many t h1 h2
  omega
theorem c_numberOf (rc : RuleC h R S j) (ok : RuleOk S j) {t m : Int} (h1 : 0 ≤ t) (h2 : t < S.terms j) (h3 : 0 ≤ m) (h4 : m < S.many j t) (K : Int → Hh → Prop) : w_X7_numberOf R t m h K = K (S.val j t m) h := by
  have q := ok.terms
  have q2 := many_le ok h1 h2
  unfold w_X7_numberOf w_X7_numberOf_21
  rw [c_hasMark rc ok]
  simp (disch := omega) only [vb_p, hb_p, w32_id, w64_id, if_pos, if_neg, and_t, Int.reduceAdd, Int.reduceMul, Int.reduceSub, Int.reduceNeg, Int.zero_add, ite_true, ite_false, rc.val]
theorem c_signedOf (rc : RuleC h R S j) (ok : RuleOk S j) {t m : Int} (h1 : 0 ≤ t) (h2 : t < S.terms j) (h3 : 0 ≤ m) (h4 : m < S.many j t) (K : Int → Hh → Prop) : w_X7_signedOf R t m h K = K (S.sg j t m) h := by
  have q := ok.terms
  have q2 := many_le ok h1 h2
  have b := sg_bd ok h1 h2 h3 h4
  unfold w_X7_signedOf w_X7_signedOf_28
  rw [c_hasMark rc ok]
  simp (disch := omega) only [vb_p, hb_p, w32_id, w64_id, if_pos, if_neg, and_t, Int.reduceAdd, Int.reduceMul, Int.reduceSub, Int.reduceNeg, Int.zero_add, ite_true, ite_false, rc.val, rc.sign]
  unfold St.sg at b ⊢
  rw [w32_id (by omega) (by omega)]
theorem c_lastMarkOf (rc : RuleC h R S j) (ok : RuleOk S j) {t : Int} (h1 : 0 ≤ t) (h2 : t < S.terms j) (K : Int → Hh → Prop) : w_X7_lastMarkOf R t h K = K (S.many j t - 1) h := by
  have q := ok.terms
  have q2 := many_le ok h1 h2
  unfold w_X7_lastMarkOf w_X7_lastMarkOf_20
  rw [c_hasTerm rc ok]
  simp (disch := omega) only [vb_p, hb_p, w32_id, w64_id, if_pos, if_neg, and_t, Int.reduceAdd, Int.reduceMul, Int.reduceSub, Int.reduceNeg, Int.zero_add, ite_true, ite_false, rc.many]
theorem c_leastOf_loop (rc : RuleC h R S j) (ok : RuleOk S j) {t : Int} (h1 : 0 ≤ t) (h2 : t < S.terms j) {K : Int → Hh → Prop} (hK : ∀ x, IsLeast S j t x → K x h) : ∀ (k n : Nat) (x i : Int), k < n → S.many j t - i ≤ k → 1 ≤ i → i ≤ S.many j t → (∀ m, 0 ≤ m → m < i → x ≤ S.sg j t m) → (∃ m, 0 ≤ m ∧ m < i ∧ x = S.sg j t m) → w_X7_leastOf_9 K R n t x i h := by
  have q2 := many_le ok h1 h2
  intro k
  induction k with
  | zero =>
    intro n x i hn hi h3 h5 h6 h7
    obtain ⟨n, rfl⟩ : ∃ m, n = m + 1 := ⟨n - 1, by omega⟩
    have e : i = S.many j t := by omega
    subst e
    rw [w_X7_leastOf_9, c_lastMarkOf rc ok h1 h2, if_pos (by omega)]
    exact hK x ⟨h6, h7⟩
  | succ k ih =>
    intro n x i hn hi h3 h5 h6 h7
    obtain ⟨n, rfl⟩ : ∃ m, n = m + 1 := ⟨n - 1, by omega⟩
    rw [w_X7_leastOf_9, c_lastMarkOf rc ok h1 h2]
    by_cases h8 : i = S.many j t
    · subst h8
      rw [if_pos (by omega)]
      exact hK x ⟨h6, h7⟩
    · rw [if_neg (by omega), c_signedOf rc ok h1 h2 (by omega) (by omega), e_minI]
      simp (disch := omega) only [vb_p, hb_p, w32_id, w64_id, if_pos, if_neg, and_t, Int.reduceAdd, Int.reduceMul, Int.reduceSub, Int.reduceNeg, Int.zero_add, ite_true, ite_false]
      refine ih n _ _ (by omega) (by omega) (by omega) (by omega) ?_ ?_
      · intro m h9 h10
        by_cases e : m = i
        · subst e; split <;> omega
        · have := h6 m h9 (by omega)
          split <;> omega
      · obtain ⟨m, m1, m2, m3⟩ := h7
        split
        · exact ⟨i, by omega, by omega, rfl⟩
        · exact ⟨m, m1, by omega, m3⟩
theorem c_leastOf (rc : RuleC h R S j) (ok : RuleOk S j) {t : Int} (h1 : 0 ≤ t) (h2 : t < S.terms j) (h3 : 1 ≤ S.many j t) {K : Int → Hh → Prop} (hK : ∀ x, IsLeast S j t x → K x h) : w_X7_leastOf R t h K := by
  have q2 := many_le ok h1 h2
  unfold w_X7_leastOf
  rw [c_signedOf rc ok h1 h2 (by omega) (by omega)]
  refine c_leastOf_loop rc ok h1 h2 hK 40 NF _ 1 (by decide) (by omega) (by omega) (by omega) ?_ ⟨0, by omega, by omega, rfl⟩
  intro m m1 m2
  have : m = 0 := by omega
  subst this
  omega
theorem c_greatestOf_loop (rc : RuleC h R S j) (ok : RuleOk S j) {t : Int} (h1 : 0 ≤ t) (h2 : t < S.terms j) {K : Int → Hh → Prop} (hK : ∀ x, IsMost S j t x → K x h) : ∀ (k n : Nat) (x i : Int), k < n → S.many j t - i ≤ k → 1 ≤ i → i ≤ S.many j t → (∀ m, 0 ≤ m → m < i → S.sg j t m ≤ x) → (∃ m, 0 ≤ m ∧ m < i ∧ x = S.sg j t m) → w_X7_greatestOf_9 K R n t x i h := by
  have q2 := many_le ok h1 h2
  intro k
  induction k with
  | zero =>
    intro n x i hn hi h3 h5 h6 h7
    obtain ⟨n, rfl⟩ : ∃ m, n = m + 1 := ⟨n - 1, by omega⟩
    have e : i = S.many j t := by omega
    subst e
    rw [w_X7_greatestOf_9, c_lastMarkOf rc ok h1 h2, if_pos (by omega)]
    exact hK x ⟨h6, h7⟩
  | succ k ih =>
    intro n x i hn hi h3 h5 h6 h7
    obtain ⟨n, rfl⟩ : ∃ m, n = m + 1 := ⟨n - 1, by omega⟩
    rw [w_X7_greatestOf_9, c_lastMarkOf rc ok h1 h2]
    by_cases h8 : i = S.many j t
    · subst h8
      rw [if_pos (by omega)]
      exact hK x ⟨h6, h7⟩
    · rw [if_neg (by omega), c_signedOf rc ok h1 h2 (by omega) (by omega), e_maxI]
      simp (disch := omega) only [vb_p, hb_p, w32_id, w64_id, if_pos, if_neg, and_t, Int.reduceAdd, Int.reduceMul, Int.reduceSub, Int.reduceNeg, Int.zero_add, ite_true, ite_false]
      refine ih n _ _ (by omega) (by omega) (by omega) (by omega) ?_ ?_
      · intro m h9 h10
        by_cases e : m = i
        · subst e; split <;> omega
        · have := h6 m h9 (by omega)
          split <;> omega
      · obtain ⟨m, m1, m2, m3⟩ := h7
        split
        · exact ⟨i, by omega, by omega, rfl⟩
        · exact ⟨m, m1, by omega, m3⟩
theorem c_greatestOf (rc : RuleC h R S j) (ok : RuleOk S j) {t : Int} (h1 : 0 ≤ t) (h2 : t < S.terms j) (h3 : 1 ≤ S.many j t) {K : Int → Hh → Prop} (hK : ∀ x, IsMost S j t x → K x h) : w_X7_greatestOf R t h K := by
  have q2 := many_le ok h1 h2
  unfold w_X7_greatestOf
  rw [c_signedOf rc ok h1 h2 (by omega) (by omega)]
  refine c_greatestOf_loop rc ok h1 h2 hK 40 NF _ 1 (by decide) (by omega) (by omega) (by omega) ?_ ⟨0, by omega, by omega, rfl⟩
  intro m m1 m2
  have : m = 0 := by omega
  subst this
  omega
/-- the place on a scale: the last of the first k that is not above f -/
def plc (sc : Int → Int) (f : Int) : Nat → Int
  | 0 => -1
  | k + 1 => if sc k ≤ f then k else plc sc f k
def tnn (sc : Int → Int) (cnt f : Int) : Int :=
  let p := plc sc f cnt.toNat
  if p = -1 then -1 else if p + 1 < cnt then 10 * p + 10 * (f - sc p) / (sc (p + 1) - sc p) else if f = sc p then 10 * p else -1
theorem plc_is {sc : Int → Int} {f p : Int} : ∀ k : Nat, 0 ≤ p → p < k → sc p ≤ f → (∀ i, p < i → i < k → f < sc i) → plc sc f k = p := by
  intro k
  induction k with
  | zero => intro h0 h1; omega
  | succ k ih =>
    intro h0 h1 h2 h3
    unfold plc
    by_cases e : p = k
    · subst e; rw [if_pos h2]
    · have := h3 k (by omega) (by omega)
      rw [if_neg (by omega)]
      exact ih h0 (by omega) h2 (fun i h4 h5 => h3 i h4 (by omega))
theorem plc_no {sc : Int → Int} {f : Int} : ∀ k : Nat, (∀ i, 0 ≤ i → i < k → f < sc i) → plc sc f k = -1 := by
  intro k
  induction k with
  | zero => intro _; rfl
  | succ k ih =>
    intro h3
    unfold plc
    have := h3 k (by omega) (by omega)
    rw [if_neg (by omega)]
    exact ih (fun i h4 h5 => h3 i h4 (by omega))
theorem tnn_in {sc v : Int → Int} {cnt n f p : Int} (hs : Scale sc cnt v n) (h0 : 0 ≤ p) (h1 : p + 1 < cnt) (h2 : sc p ≤ f) (h3 : f < sc (p + 1)) : tnn sc cnt f = 10 * p + 10 * (f - sc p) / (sc (p + 1) - sc p) := by
  have e : plc sc f cnt.toNat = p := plc_is _ h0 (by omega) h2 (fun i h4 h5 => by
    by_cases e : i = p + 1
    · subst e; exact h3
    · have := hs.up (p + 1) i (by omega) (by omega) (by omega)
      omega)
  unfold tnn
  simp only [e]
  rw [if_neg (by omega), if_pos h1]
theorem tnn_last {sc v : Int → Int} {cnt n f : Int} (hs : Scale sc cnt v n) (h1 : 0 < cnt) (h2 : f = sc (cnt - 1)) : tnn sc cnt f = 10 * (cnt - 1) := by
  have e : plc sc f cnt.toNat = cnt - 1 := plc_is _ (by omega) (by omega) (by omega) (fun i h4 h5 => by omega)
  unfold tnn
  simp only [e]
  rw [if_neg (by omega), if_neg (by omega), if_pos h2]
theorem tnn_low {sc v : Int → Int} {cnt n f : Int} (hs : Scale sc cnt v n) (h2 : 0 < cnt → f < sc 0) : tnn sc cnt f = -1 := by
  have e : plc sc f cnt.toNat = -1 := plc_no _ (fun i h4 h5 => by
    by_cases e : i = 0
    · subst e; exact h2 (by omega)
    · have := hs.up 0 i (by omega) (by omega) (by omega)
      have := h2 (by omega)
      omega)
  unfold tnn
  simp only [e, ite_true]
theorem tnn_high {sc v : Int → Int} {cnt n f : Int} (hs : Scale sc cnt v n) (h1 : 0 < cnt) (h2 : sc (cnt - 1) < f) : tnn sc cnt f = -1 := by
  have e : plc sc f cnt.toNat = cnt - 1 := plc_is _ (by omega) (by omega) (by omega) (fun i h4 h5 => by omega)
  unfold tnn
  simp only [e]
  rw [if_neg (by omega), if_neg (by omega), if_neg (by omega)]
/-- ten parts of a gap -/
theorem gap_div {x g : Int} (h0 : 0 ≤ x) (h1 : x < g) (h2 : g ≤ 20000) : Int.tdiv (10 * x) g = 10 * x / g ∧ 0 ≤ 10 * x / g ∧ 10 * x / g < 10 := by
  refine ⟨Int.tdiv_eq_ediv_of_nonneg (by omega), Int.ediv_nonneg (by omega) (by omega), Int.ediv_lt_of_lt_mul (by omega) (by omega)⟩
theorem sc_bd (ok : RuleOk S j) {i : Int} (h0 : 0 ≤ i) (h1 : i < S.scn j) : -10000 ≤ S.sc j i ∧ S.sc j i ≤ 10000 := by
  obtain ⟨m, m1, m2, m3⟩ := ok.scale.inn i h0 h1
  have := ok.val 0 m (by omega) (by have := ok.terms; omega) m1 m2
  omega
theorem c_tenthsOf (rc : RuleC h R S j) (ok : RuleOk S j) {f : Int} (hf : -1000000000 ≤ f ∧ f ≤ 1000000000) (K : Int → Hh → Prop) : w_X7_tenthsOf R f h K = K (tnn (S.sc j) (S.scn j) f) h := by
  have q := ok.terms
  have qm := many_le ok (t := 0) (by omega) (by omega)
  have qs := ok.scale.num
  unfold w_X7_tenthsOf w_X7_tenthsOf_37
  rw [rc.scn]
  by_cases h1 : S.scn j < 1
  · rw [if_pos h1, tnn_low ok.scale (fun h => by omega)]
  · rw [if_neg h1, and_t (by omega), rc.sc 0 (by omega) (by omega)]
    by_cases h2 : f < S.sc j 0
    · rw [if_pos h2, tnn_low ok.scale (fun _ => h2)]
    · rw [if_neg h2, w32_id (by omega) (by omega), and_t (by omega), rc.sc (S.scn j - 1) (by omega) (by omega)]
      by_cases h3 : f ≤ S.sc j (S.scn j - 1)
      · rw [if_pos h3]
        have loop : ∀ (k n : Nat) (p : Int), k < n → S.scn j - p ≤ k → 0 ≤ p → p < S.scn j → S.sc j p ≤ f → w_X7_tenthsOf_41 K (fun u6 u7 h5 => w_X7_tenthsOf_71 K R u6 u7 h5) R n f p h = K (tnn (S.sc j) (S.scn j) f) h := by
          intro k
          induction k with
          | zero => intro n p hn hk h4 h5 h6; omega
          | succ k ih =>
            intro n p hn hk h4 h5 h6
            obtain ⟨n, rfl⟩ : ∃ m, n = m + 1 := ⟨n - 1, by omega⟩
            rw [w_X7_tenthsOf_41, w32_id (by omega) (by omega), rc.scn]
            by_cases h7 : p + 1 ≥ S.scn j
            · have e : p = S.scn j - 1 := by omega
              subst e
              rw [if_pos h7]
              show w_X7_tenthsOf_71 K R f (S.scn j - 1) h = _
              unfold w_X7_tenthsOf_71
              rw [rc.scn, w32_id (z := S.scn j - 1 + 1) (by omega) (by omega), if_neg (by omega), tnn_last ok.scale (by omega) (by omega), w32_id (by omega) (by omega)]
            · rw [if_neg h7, and_t (by omega), rc.sc (p + 1) (by omega) (by omega)]
              by_cases h8 : S.sc j (p + 1) > f
              · have g := gap_div (x := f - S.sc j p) (g := S.sc j (p + 1) - S.sc j p) (by omega) (by omega) (by have := sc_bd ok (i := p) (by omega) (by omega); have := sc_bd ok (i := p + 1) (by omega) (by omega); omega)
                have s1 := sc_bd ok (i := p) (by omega) (by omega)
                have s2 := sc_bd ok (i := p + 1) (by omega) (by omega)
                rw [if_pos h8]
                show w_X7_tenthsOf_71 K R f p h = _
                unfold w_X7_tenthsOf_71 w_X7_tenthsOf_138
                rw [rc.scn, w32_id (z := p + 1) (by omega) (by omega), if_pos (by omega), and_t (by omega), and_t (by omega), rc.sc (p + 1) (by omega) (by omega), rc.sc p (by omega) (by omega)]
                simp only [vb_p]
                rw [w32_id (z := S.sc j (p + 1) - S.sc j p) (by omega) (by omega), if_pos (by omega), and_t (by omega), w64_id (z := f - S.sc j p) (by omega) (by omega), w64_id (z := 10 * (f - S.sc j p)) (by omega) (by omega), g.1, w64_id (by omega) (by omega), w32_id (z := 10 * p) (by omega) (by omega), w32_id (z := 10 * (f - S.sc j p) / (S.sc j (p + 1) - S.sc j p)) (by omega) (by omega), w32_id (by omega) (by omega), tnn_in ok.scale h4 (by omega) h6 (by omega)]
              · rw [if_neg h8]
                exact ih n (p + 1) (by omega) (by omega) (by omega) (by omega) (by omega)
        exact loop 50 NF 0 (by decide) (by omega) (by omega) (by omega) (by omega)
      · rw [if_neg h3, tnn_high ok.scale (by omega) (by omega)]
end
