/-! PURE 53: texts: the class's reading -/
def PC (h : Hh) (σ : PS) : Prop := (h 3 2 = σ.tm) ∧ (h 3 3 = σ.cn) ∧ (h 3 4 = σ.st) ∧ (h 3 5 = σ.sg) ∧ ((σ.st = 5 ∨ σ.st = 6) → h 3 6 = σ.lt (σ.tm - 1)) ∧ (∀ c, 97 ≤ c → c ≤ 122 → ((i32 (h 3 7) &&& i32 (shv (c - 97))).toInt = 0 ↔ ¬ isIn σ.lt σ.tm c)) ∧ (∀ k, 0 ≤ k → k < σ.tm → h 4 k = σ.kd k) ∧ (∀ k, 0 ≤ k → k < σ.tm → h 5 k = σ.sn k)
theorem PC.tm {h : Hh} {σ : PS} (x__ : PC h σ) : h 3 2 = σ.tm := x__.1
theorem PC.cn {h : Hh} {σ : PS} (x__ : PC h σ) : h 3 3 = σ.cn := x__.2.1
theorem PC.st {h : Hh} {σ : PS} (x__ : PC h σ) : h 3 4 = σ.st := x__.2.2.1
theorem PC.sg {h : Hh} {σ : PS} (x__ : PC h σ) : h 3 5 = σ.sg := x__.2.2.2.1
theorem PC.lt {h : Hh} {σ : PS} (x__ : PC h σ) : (σ.st = 5 ∨ σ.st = 6) → h 3 6 = σ.lt (σ.tm - 1) := x__.2.2.2.2.1
theorem PC.seen {h : Hh} {σ : PS} (x__ : PC h σ) : ∀ c, 97 ≤ c → c ≤ 122 → ((i32 (h 3 7) &&& i32 (shv (c - 97))).toInt = 0 ↔ ¬ isIn σ.lt σ.tm c) := x__.2.2.2.2.2.1
theorem PC.kd {h : Hh} {σ : PS} (x__ : PC h σ) : ∀ k, 0 ≤ k → k < σ.tm → h 4 k = σ.kd k := x__.2.2.2.2.2.2.1
theorem PC.sn {h : Hh} {σ : PS} (x__ : PC h σ) : ∀ k, 0 ≤ k → k < σ.tm → h 5 k = σ.sn k := x__.2.2.2.2.2.2.2
theorem PC.mk' {h : Hh} {σ : PS} (tm__ : h 3 2 = σ.tm) (cn__ : h 3 3 = σ.cn) (st__ : h 3 4 = σ.st) (sg__ : h 3 5 = σ.sg) (lt__ : (σ.st = 5 ∨ σ.st = 6) → h 3 6 = σ.lt (σ.tm - 1)) (seen__ : ∀ c, 97 ≤ c → c ≤ 122 → ((i32 (h 3 7) &&& i32 (shv (c - 97))).toInt = 0 ↔ ¬ isIn σ.lt σ.tm c)) (kd__ : ∀ k, 0 ≤ k → k < σ.tm → h 4 k = σ.kd k) (sn__ : ∀ k, 0 ≤ k → k < σ.tm → h 5 k = σ.sn k) : PC h σ := ⟨tm__, cn__, st__, sg__, lt__, seen__, kd__, sn__⟩
def eqP (h h' : Hh) : Prop := ∀ a, a ≠ 3 → a ≠ 4 → a ≠ 5 → h' a = h a
theorem eqP.rfl' {h : Hh} : eqP h h := fun _ _ _ _ => rfl
theorem eqP.trans {h h1 h2 : Hh} (a : eqP h h1) (b : eqP h1 h2) : eqP h h2 := fun x q1 q2 q3 => (b x q1 q2 q3).trans (a x q1 q2 q3)
theorem eqP.w {h h' : Hh} (e : eqP h h') : eqW h h' := fun a q => e a (fun w => q (by unfold sw; omega)) (fun w => q (by unfold sw; omega)) (fun w => q (by unfold sw; omega))
/-- a step of the class does what the reading says -/
def TkR (h : Hh) (τ : PS) (K : Int → Hh → Prop) : Prop := (τ.st = -1 → K 0 h) ∧ (∀ h', eqP h h' → τ.st ≠ -1 → PC h' τ → K 1 h')
theorem TkR.wr {h : Hh} {τ : PS} {K : Int → Hh → Prop} (t : TkR h τ K) : TkR h τ (fun r h2 => (r = 0 ∨ r = 1) ∧ K r h2) := ⟨fun w => ⟨Or.inl rfl, t.1 w⟩, fun h' e w p => ⟨Or.inr rfl, t.2 h' e w p⟩⟩
theorem c_goesOn {h : Hh} {σ : PS} (c : PC h σ) {sg st : Int} (hl : (st = 5 ∨ st = 6) → h 3 6 = σ.lt (σ.tm - 1)) (hs : st ≠ -1) {K : Int → Hh → Prop} (t : TkR h (σ.go sg st) K) : w_X5_goesOn 3 sg st h K := by
  unfold w_X5_goesOn
  rw [hb_p, hb_p]
  refine t.2 _ (fun a a1 a2 a3 => by rw [up_ne a1, up_ne a1]) hs ⟨?_, ?_, ?_, ?_, ?_, ?_, ?_, ?_⟩
  · simp only [up_at, Int.reduceEq, reduceIte]; exact c.tm
  · simp only [up_at, Int.reduceEq, reduceIte]; exact c.cn
  · simp only [up_at, Int.reduceEq, reduceIte]; rfl
  · simp only [up_at, Int.reduceEq, reduceIte]; rfl
  · intro w
    simp only [up_at, Int.reduceEq, reduceIte]; exact hl w
  · simp only [up_at, Int.reduceEq, reduceIte]; exact c.seen
  · rw [up_ne (by decide), up_ne (by decide)]; exact c.kd
  · rw [up_ne (by decide), up_ne (by decide)]; exact c.sn
theorem c_takesLetter {h : Hh} {σ : PS} (c : PC h σ) (p : PI σ) {x kind nst : Int} (hn : nst = 5 ∨ nst = 7) {K : Int → Hh → Prop} (t : TkR h (σ.ltr x kind nst) K) : w_X5_takesLetter 3 x kind nst h K := by
  have tm := p.tm
  unfold w_X5_takesLetter w_X5_takesLetter_20
  have no : ¬ ((97 ≤ x ∧ x ≤ 122) ∧ σ.tm < 5 ∧ ¬ isIn σ.lt σ.tm x) → K 0 h := fun q => t.1 (by rw [ltr_no q]; rfl)
  by_cases q1 : x < 97
  · rw [if_pos q1]; exact no (by omega)
  rw [if_neg q1]
  by_cases q2 : x > 122
  · rw [if_pos q2]; exact no (by omega)
  rw [if_neg q2, c.tm]
  by_cases q3 : σ.tm < 5
  · rw [if_pos q3, vb_p, w32_id (z := x - 97) (by omega) (by omega)]
    have sn := c.seen x (by omega) (by omega)
    have es : (i32 1 <<< (i32 (x - 97) &&& 31)).toInt = shv (x - 97) := rfl
    rw [es]
    by_cases q4 : (i32 (h 3 7) &&& i32 (shv (x - 97))).toInt = 0
    · rw [if_pos q4, hb_p, hb_p]
      simp only [Int.reduceAdd]
      have yes := ltr_yes (σ := σ) (c := x) (kind := kind) (nst := nst) (by omega) q3 (sn.mp q4)
      generalize hz : (i32 (h 3 7) ||| i32 (shv (x - 97))).toInt = z
      have r1 : up (up h 3 7 z) 3 6 x 3 2 = σ.tm := by
        simp only [up_at, Int.reduceEq, reduceIte]; exact c.tm
      rw [r1, and_t (by omega), hb_p]
      have r2 : up (up (up h 3 7 z) 3 6 x) 4 σ.tm kind 3 2 = σ.tm := by rw [up_ne (by decide)]; exact r1
      have r3 : up (up (up h 3 7 z) 3 6 x) 4 σ.tm kind 3 5 = σ.sg := by
        rw [up_ne (by decide)]
        simp only [up_at, Int.reduceEq, reduceIte]; exact c.sg
      rw [r2, and_t (by omega), r3, hb_p]
      have r4 : up (up (up (up h 3 7 z) 3 6 x) 4 σ.tm kind) 5 σ.tm σ.sg 3 2 = σ.tm := by rw [up_ne (by decide)]; exact r2
      rw [r4, hb_p, w32_id (z := σ.tm + 1) (by omega) (by omega)]
      have r5 : up (up (up (up (up h 3 7 z) 3 6 x) 4 σ.tm kind) 5 σ.tm σ.sg) 3 2 (σ.tm + 1) 3 5 = σ.sg := by
        rw [up_at, if_neg (by decide), up_ne (by decide)]; exact r3
      rw [r5]
      unfold w_X5_goesOn
      rw [hb_p, hb_p]
      refine ⟨Or.inr rfl, t.2 _ (fun a a1 a2 a3 => ?_) ?_ ?_⟩
      · rw [up_ne a1, up_ne a1, up_ne a1, up_ne a3, up_ne a2, up_ne a1, up_ne a1]
      · rw [yes]
        show nst ≠ -1
        omega
      · rw [yes]
        have g3 : ∀ j, up (up (up (up (up (up (up h 3 7 z) 3 6 x) 4 σ.tm kind) 5 σ.tm σ.sg) 3 2 (σ.tm + 1)) 3 5 σ.sg) 3 4 nst 3 j = if j = 4 then nst else if j = 5 then σ.sg else if j = 2 then σ.tm + 1 else if j = 6 then x else if j = 7 then z else h 3 j := by
          intro j
          rw [up_at, up_at, up_at, up_ne (by decide), up_ne (by decide), up_at, up_at]
        refine ⟨?_, ?_, ?_, ?_, ?_, ?_, ?_, ?_⟩
        · rw [g3, if_neg (by decide), if_neg (by decide), if_pos rfl]; rfl
        · rw [g3, if_neg (by decide), if_neg (by decide), if_neg (by decide), if_neg (by decide), if_neg (by decide)]; exact c.cn
        · rw [g3, if_pos rfl]; rfl
        · rw [g3, if_neg (by decide), if_pos rfl]; rfl
        · intro _
          rw [g3, if_neg (by decide), if_neg (by decide), if_neg (by decide), if_pos rfl]
          show x = fup σ.lt σ.tm x (σ.tm + 1 - 1)
          rw [show σ.tm + 1 - 1 = σ.tm by omega, fup_at]
        · intro d d1 d2
          rw [g3, if_neg (by decide), if_neg (by decide), if_neg (by decide), if_neg (by decide), if_pos rfl, ← hz, seen26 (by omega) (by omega), c.seen d d1 d2]
          show _ ↔ ¬ isIn (fup σ.lt σ.tm x) (σ.tm + 1) d
          constructor
          · rintro ⟨w1, w2⟩ ⟨i, i0, i1, i2⟩
            by_cases e : i = σ.tm
            · rw [e, fup_at] at i2; omega
            · rw [fup_ne e] at i2
              exact w1 ⟨i, i0, by omega, i2⟩
          · intro w
            refine ⟨fun ⟨i, i0, i1, i2⟩ => w ⟨i, i0, by omega, by rw [fup_ne (by omega)]; exact i2⟩, fun e => w ⟨σ.tm, by omega, by omega, by rw [fup_at]; omega⟩⟩
        · intro k k0 k1
          rw [up_ne (by decide), up_ne (by decide), up_ne (by decide), up_ne (by decide), up_at, up_ne (by decide), up_ne (by decide)]
          show _ = fup σ.kd σ.tm kind k
          have k1' : k < σ.tm + 1 := k1
          by_cases e : k = σ.tm
          · rw [if_pos e, e, fup_at]
          · rw [if_neg e, fup_ne e]; exact c.kd k k0 (by omega)
        · intro k k0 k1
          rw [up_ne (by decide), up_ne (by decide), up_ne (by decide), up_at, up_ne (by decide), up_ne (by decide), up_ne (by decide)]
          show _ = fup σ.sn σ.tm σ.sg k
          have k1' : k < σ.tm + 1 := k1
          by_cases e : k = σ.tm
          · rw [if_pos e, e, fup_at]
          · rw [if_neg e, fup_ne e]; exact c.sn k k0 (by omega)
    · rw [if_neg q4]
      exact no (fun w => q4 (sn.mpr w.2.2))
  · rw [if_neg q3]; exact no (by omega)
theorem c_bgn {h : Hh} {σ : PS} (c : PC h σ) (p : PI σ) {x : Int} {K : Int → Hh → Prop} (t : TkR h (σ.bgn x) K) : w_X5_beginsForm 3 x h K := by
  unfold w_X5_beginsForm w_X5_beginsForm_35
  unfold PS.bgn at t
  rw [c.tm]
  by_cases q : σ.tm < 5
  · rw [if_pos q] at t ⊢
    by_cases q2 : x ≠ 47
    · rw [if_pos q2] at t ⊢
      exact c_takesLetter c p (Or.inl rfl) t.wr
    · rw [if_neg q2] at t ⊢
      rw [c.sg]
      exact c_goesOn c (by omega) (by decide) t.wr
  · rw [if_neg q] at t ⊢
    exact t.1 rfl
theorem c_flw {h : Hh} {σ : PS} (c : PC h σ) {x : Int} {K : Int → Hh → Prop} (t : TkR h (σ.flw x) K) : w_X5_followsPart 3 x h K := by
  unfold w_X5_followsPart w_X5_followsPart_83 w_X5_followsPart_84 w_X5_followsPart_27 w_X5_followsPart_28
  unfold PS.flw at t
  rw [c.tm]
  have two : ∀ {τ : PS}, TkR h τ K → TkR h τ (fun r h2 => if r = 0 then ((0 : Int) = 0 ∨ (0 : Int) = 1) ∧ K 0 h2 else ((1 : Int) = 0 ∨ (1 : Int) = 1) ∧ K 1 h2) := by
    intro τ t
    refine ⟨fun w => ?_, fun h' e w p => ?_⟩
    · show if (0 : Int) = 0 then _ else _
      rw [if_pos rfl]; exact ⟨Or.inl rfl, t.1 w⟩
    · show if (1 : Int) = 0 then _ else _
      rw [if_neg (by decide)]; exact ⟨Or.inr rfl, t.2 h' e w p⟩
  by_cases q : σ.tm ≠ 1
  · rw [if_pos q] at t ⊢
    by_cases q2 : x ≠ 43
    · rw [if_pos q2] at t ⊢
      by_cases q3 : x ≠ 45
      · rw [if_pos q3] at t ⊢
        by_cases q4 : x ≠ 59
        · rw [if_pos q4] at t ⊢
          exact ⟨Or.inl rfl, t.1 rfl⟩
        · rw [if_neg q4] at t ⊢
          by_cases q5 : σ.tm < 3
          · rw [if_pos q5] at t ⊢
            exact ⟨Or.inl rfl, t.1 rfl⟩
          · rw [if_neg q5] at t ⊢
            exact c_goesOn c (by omega) (by decide) (two t)
      · rw [if_neg q3] at t ⊢
        exact c_goesOn c (by omega) (by decide) t.wr
    · rw [if_neg q2] at t ⊢
      exact c_goesOn c (by omega) (by decide) t.wr
  · rw [if_neg q] at t ⊢
    by_cases q2 : x ≠ 61
    · rw [if_pos q2] at t ⊢
      exact ⟨Or.inl rfl, t.1 rfl⟩
    · rw [if_neg q2] at t ⊢
      exact c_goesOn c (by omega) (by decide) (two t)
theorem c_sqr {h : Hh} {σ : PS} (c : PC h σ) (p : PI σ) (h6 : σ.st = 6) {x : Int} {K : Int → Hh → Prop} (t : TkR h (σ.sqr x) K) : w_X5_squares 3 x h K := by
  have tm := p.tm
  unfold w_X5_squares w_X5_squares_24
  unfold PS.sqr at t
  rw [c.tm, c.lt (Or.inr h6)]
  by_cases q1 : x ≠ σ.lt (σ.tm - 1)
  · rw [if_pos q1]
    rw [if_pos (Or.inl q1)] at t
    exact t.1 rfl
  rw [if_neg q1]
  by_cases q2 : σ.tm < 1
  · rw [if_pos q2]
    rw [if_pos (Or.inr (Or.inl q2))] at t
    exact t.1 rfl
  rw [if_neg q2, if_pos (by omega), w32_id (z := σ.tm - 1) (by omega) (by omega), and_t (by omega), hb_p]
  rw [if_neg (by omega)] at t
  simp only [Int.reduceAdd]
  unfold w_X5_goesOn
  rw [up_ne (show (3 : Int) ≠ 4 by decide), c.sg, hb_p, hb_p]
  refine ⟨Or.inr rfl, t.2 _ (fun a a1 a2 a3 => by rw [up_ne a1, up_ne a1, up_ne a2]) (by show (7 : Int) ≠ -1; decide) ?_⟩
  have g3 : ∀ j, up (up (up h 4 (σ.tm - 1) 1) 3 5 σ.sg) 3 4 7 3 j = if j = 4 then 7 else if j = 5 then σ.sg else h 3 j := by
    intro j
    rw [up_at, up_at, up_ne (by decide)]
  refine ⟨?_, ?_, ?_, ?_, ?_, ?_, ?_, ?_⟩
  · rw [g3, if_neg (by decide), if_neg (by decide)]; exact c.tm
  · rw [g3, if_neg (by decide), if_neg (by decide)]; exact c.cn
  · rw [g3, if_pos rfl]; rfl
  · rw [g3, if_neg (by decide), if_pos rfl]; rfl
  · intro w
    rcases w with w | w <;> exact absurd w (by show ¬ (7 : Int) = _; decide)
  · intro d d1 d2
    rw [g3, if_neg (by decide), if_neg (by decide)]; exact c.seen d d1 d2
  · intro k k0 k1
    rw [up_ne (by decide), up_ne (by decide), up_at]
    show _ = fup σ.kd (σ.tm - 1) 1 k
    by_cases e : k = σ.tm - 1
    · rw [if_pos e, e, fup_at]
    · rw [if_neg e, fup_ne e]; exact c.kd k k0 k1
  · intro k k0 k1
    rw [up_ne (by decide), up_ne (by decide), up_ne (by decide)]; exact c.sn k k0 k1
theorem c_tks {h : Hh} {σ : PS} (c : PC h σ) (p : PI σ) {x : Int} {K : Int → Hh → Prop} (t : TkR h (σ.tks x) K) : w_X5_takes 3 x h K := by
  unfold w_X5_takes w_X5_takes_52 w_X5_takes_78 w_X5_takes_112
  unfold PS.tks at t
  rw [c.st]
  by_cases q0 : σ.st = 0
  · rw [if_pos q0] at t ⊢; exact c_bgn c p t.wr
  rw [if_neg q0] at t ⊢
  by_cases q1 : σ.st = 1
  · rw [if_pos q1] at t ⊢
    by_cases q : x ≠ 45
    · rw [if_pos q] at t ⊢; exact c_bgn c p t.wr
    · rw [if_neg q] at t ⊢; exact c_goesOn c (by omega) (by decide) t.wr
  rw [if_neg q1] at t ⊢
  by_cases q2 : σ.st = 2
  · rw [if_pos q2] at t ⊢; exact c_bgn c p t.wr
  rw [if_neg q2] at t ⊢
  by_cases q3 : σ.st = 3
  · rw [if_pos q3] at t ⊢; exact c_bgn c p t.wr
  rw [if_neg q3] at t ⊢
  by_cases q4 : σ.st = 4
  · rw [if_pos q4] at t ⊢; exact c_takesLetter c p (Or.inr rfl) t.wr
  rw [if_neg q4] at t ⊢
  by_cases q5 : σ.st = 5
  · rw [if_pos q5] at t ⊢
    by_cases q : x ≠ 42
    · rw [if_pos q] at t ⊢; exact c_flw c t.wr
    · rw [if_neg q] at t ⊢
      rw [c.sg]
      exact c_goesOn c (fun _ => c.lt (Or.inl q5)) (by decide) t.wr
  rw [if_neg q5] at t ⊢
  by_cases q6 : σ.st = 6
  · rw [if_pos q6] at t ⊢; exact c_sqr c p q6 t.wr
  rw [if_neg q6] at t ⊢
  by_cases q7 : σ.st = 7
  · rw [if_pos q7] at t ⊢; exact c_flw c t.wr
  rw [if_neg q7] at t ⊢
  exact t.1 rfl
noncomputable def St.rdg (S : St) : Int ⊕ PS := prs S.txt S.size.toNat 0 PS0 (-1) 0
theorem c_fault {h0 : Hh} {S : St} (rc : RepC h0 S) (w : WF S) {K : Int → Hh → Prop} (hf : ∀ r h, eqP h0 h → 0 ≤ r → S.rdg = Sum.inl r → K r h) (hy : ∀ σ h, eqP h0 h → S.rdg = Sum.inr σ → PI σ → σ.st = 8 → -2000000 ≤ σ.cn ∧ σ.cn ≤ 2000000 → PC h σ → K (-1) h) : w_X5_faultOf 3 1 h0 K := by
  have sz := w.size
  unfold w_X5_faultOf
  have loop : ∀ (k n : Nat) (p : Int) (σ : PS) (ns v v3 : Int) (h : Hh), k < n → S.size - p = k → 0 ≤ p → eqP h0 h → PC h σ → PI σ → (-(10000 * p) ≤ σ.cn ∧ σ.cn ≤ 10000 * p) → (ns = -1 ∨ (0 ≤ ns ∧ v3 = v ∧ 0 ≤ v ∧ v ≤ 9999)) → prs S.txt k p σ ns v = S.rdg → w_X5_faultOf_11 K (fun u11 h10 => if h10 3 4 ≠ 8 then (0 ≤ u11 ∧ (w_X5_faultOf_137 K 3 (h10 u11 1) h10)) else (w_X5_faultOf_137 K 3 (-1) h10)) 3 n 1 ns v3 p h := by
    intro k
    induction k with
    | zero =>
      intro n p σ ns v v3 h hn hk p0 e c pi cb nv eR
      obtain ⟨n, rfl⟩ : ∃ m, n = m + 1 := ⟨n - 1, by omega⟩
      have y := rc.keep w e.w.c.sc
      rw [w_X5_faultOf_11, and_t (by omega), y.size, if_pos (by omega), c.st]
      unfold w_X5_faultOf_137
      have u : prs S.txt 0 p σ ns v = if σ.st = 8 then Sum.inr σ else Sum.inl p := rfl
      rw [u] at eR
      by_cases q : σ.st = 8
      · rw [if_neg (fun x => x q)]
        rw [if_pos q] at eR
        exact hy σ h e eR.symm pi q (by omega) c
      · rw [if_pos q, and_t (by omega)]
        rw [if_neg q] at eR
        rw [show S.size = p by omega]
        exact hf p h e p0 eR.symm
    | succ k ih =>
      intro n p σ ns v v3 h hn hk p0 e c pi cb nv eR
      obtain ⟨n, rfl⟩ : ∃ m, n = m + 1 := ⟨n - 1, by omega⟩
      have y := rc.keep w e.w.c.sc
      have tb := w.txt p p0 (by omega)
      have dg1 := ub_dig tb
      have sp1 := ub_sp tb
      have u : prs S.txt (k + 1) p σ ns v = if 48 ≤ S.txt p ∧ S.txt p ≤ 57 then (if ns ≠ -1 then (if v * 10 + (S.txt p - 48) ≤ 9999 then prs S.txt k (p + 1) σ ns (v * 10 + (S.txt p - 48)) else Sum.inl ns) else if σ.st = 3 then prs S.txt k (p + 1) σ p (S.txt p - 48) else Sum.inl p) else if S.txt p = 32 then prs S.txt k (p + 1) (σ.cl ns v) (-1) 0 else if ((σ.cl ns v).tks (ub (S.txt p))).st = -1 then Sum.inl p else prs S.txt k (p + 1) ((σ.cl ns v).tks (ub (S.txt p))) (-1) 0 := rfl
      rw [u] at eR
      rw [w_X5_faultOf_11, and_t (by omega), y.size, if_neg (by omega)]
      unfold w_X8_byteAt w_X8_byteAt_25 w_X8_byteAt_26
      rw [if_neg (by omega), y.size, if_neg (by omega), and_t (by omega)]
      simp only [Int.reduceAdd]
      rw [y.txt p p0 (by omega), ubE tb]
      -- what comes behind a byte that is no digit
      have behind : ∀ (τ : PS) (z : Int) (h2 : Hh), eqP h0 h2 → PC h2 τ → PI τ → (-(10000 * (p + 1)) ≤ τ.cn ∧ τ.cn ≤ 10000 * (p + 1)) → (if S.txt p = 32 then prs S.txt k (p + 1) τ (-1) 0 else if (τ.tks (ub (S.txt p))).st = -1 then Sum.inl p else prs S.txt k (p + 1) (τ.tks (ub (S.txt p))) (-1) 0) = S.rdg → w_X5_faultOf_95 K (w_X5_faultOf_11 K (fun u11 h10 => if h10 3 4 ≠ 8 then (0 ≤ u11 ∧ (w_X5_faultOf_137 K 3 (h10 u11 1) h10)) else (w_X5_faultOf_137 K 3 (-1) h10)) 3 n) (fun u11 h10 => if h10 3 4 ≠ 8 then (0 ≤ u11 ∧ (w_X5_faultOf_137 K 3 (h10 u11 1) h10)) else (w_X5_faultOf_137 K 3 (-1) h10)) 3 1 (-1) z p (ub (S.txt p)) h2 := by
        intro τ z h2 e2 c2 p2 cb2 eR2
        unfold w_X5_faultOf_95 w_X5_faultOf_114
        by_cases q : S.txt p = 32
        · rw [if_pos (sp1.mpr q), vb_p, w32_id (by omega) (by omega)]
          rw [if_pos q] at eR2
          exact ih n (p + 1) τ (-1) 0 z h2 (by omega) (by omega) (by omega) e2 c2 p2 cb2 (Or.inl rfl) eR2
        · rw [if_neg (fun x => q (sp1.mp x))]
          rw [if_neg q] at eR2
          refine c_tks c2 p2 ⟨fun w1 => ?_, fun h3 e3 w1 c3 => ?_⟩
          · show if (0 : Int) ≠ 0 then _ else _
            rw [if_neg (by decide)]
            rw [if_pos w1] at eR2
            exact hf p h2 e2 p0 eR2.symm
          · show if (1 : Int) ≠ 0 then _ else _
            rw [if_pos (by decide), vb_p, w32_id (by omega) (by omega)]
            rw [if_neg w1] at eR2
            have p3 := p2.tks w1
            exact ih n (p + 1) _ (-1) 0 z h3 (by omega) (by omega) (by omega) (e2.trans e3) c3 p3.1 (by rw [p3.2]; exact cb2) (Or.inl rfl) eR2
      have nodig : ¬ (48 ≤ S.txt p ∧ S.txt p ≤ 57) → w_X5_faultOf_83 K (w_X5_faultOf_11 K (fun u11 h10 => if h10 3 4 ≠ 8 then (0 ≤ u11 ∧ (w_X5_faultOf_137 K 3 (h10 u11 1) h10)) else (w_X5_faultOf_137 K 3 (-1) h10)) 3 n) (fun u11 h10 => if h10 3 4 ≠ 8 then (0 ≤ u11 ∧ (w_X5_faultOf_137 K 3 (h10 u11 1) h10)) else (w_X5_faultOf_137 K 3 (-1) h10)) 3 1 ns v3 p (ub (S.txt p)) h := by
        intro q
        rw [if_neg q] at eR
        unfold w_X5_faultOf_83
        by_cases q1 : ns = -1
        · rw [if_pos q1]
          unfold PS.cl at eR
          rw [if_pos q1] at eR
          rw [q1]
          exact behind σ v3 h e c pi (by omega) eR
        · rw [if_neg q1]
          unfold PS.cl at eR
          rw [if_neg q1] at eR
          obtain ⟨n0, n1, n2, n3⟩ := nv.resolve_left q1
          have sgv : -9999 ≤ σ.sg * v ∧ σ.sg * v ≤ 9999 := by
            rcases pi.sg with g | g <;> rw [g] <;> omega
          unfold w_X5_takeNumber
          rw [hb_p, hb_p, c.cn, c.sg, n1, w32_id (z := σ.sg * v) (by omega) (by omega), w32_id (z := σ.cn + σ.sg * v) (by omega) (by omega)]
          refine behind (σ.num v) v _ (e.trans (fun a a1 a2 a3 => by rw [up_ne a1, up_ne a1])) ?_ (pi.num v) ?_ eR
          · have g3 : ∀ j, up (up h 3 3 (σ.cn + σ.sg * v)) 3 4 7 3 j = if j = 4 then 7 else if j = 3 then σ.cn + σ.sg * v else h 3 j := by
              intro j
              rw [up_at, up_at]
            refine ⟨?_, ?_, ?_, ?_, ?_, ?_, ?_, ?_⟩
            · rw [g3, if_neg (by decide), if_neg (by decide)]; exact c.tm
            · rw [g3, if_neg (by decide), if_pos rfl]; rfl
            · rw [g3, if_pos rfl]; rfl
            · rw [g3, if_neg (by decide), if_neg (by decide)]; exact c.sg
            · intro w
              rcases w with w | w <;> exact absurd w (by show ¬ (7 : Int) = _; decide)
            · intro d d1 d2
              rw [g3, if_neg (by decide), if_neg (by decide)]; exact c.seen d d1 d2
            · intro k k0 k1
              rw [up_ne (by decide), up_ne (by decide)]; exact c.kd k k0 k1
            · intro k k0 k1
              rw [up_ne (by decide), up_ne (by decide)]; exact c.sn k k0 k1
          · show -(10000 * (p + 1)) ≤ σ.cn + σ.sg * v ∧ σ.cn + σ.sg * v ≤ 10000 * (p + 1)
            omega
      by_cases q1 : ub (S.txt p) < 48
      · rw [if_pos q1]
        exact nodig (fun x => by have := dg1.mpr x; omega)
      rw [if_neg q1]
      by_cases q2 : ub (S.txt p) > 57
      · rw [if_pos q2]
        exact nodig (fun x => by have := dg1.mpr x; omega)
      rw [if_neg q2]
      have dig := dg1.mp (by omega)
      have ui : ub (S.txt p) = S.txt p := ub_id (by omega)
      rw [if_pos dig] at eR
      unfold w_X5_faultOf_63 w_X5_faultOf_114
      rw [ui]
      simp only [vb_p]
      rw [w32_id (z := S.txt p - 48) (by omega) (by omega), w32_id (z := p + 1) (by omega) (by omega)]
      by_cases q3 : ns ≠ -1
      · rw [if_pos q3]
        rw [if_pos q3] at eR
        obtain ⟨n0, n1, n2, n3⟩ := nv.resolve_left q3
        rw [n1, w32_id (z := v * 10) (by omega) (by omega), w32_id (z := v * 10 + (S.txt p - 48)) (by omega) (by omega)]
        by_cases q4 : v * 10 + (S.txt p - 48) ≤ 9999
        · rw [if_pos q4] at eR ⊢
          exact ih n (p + 1) σ ns _ _ h (by omega) (by omega) (by omega) e c pi (by omega) (Or.inr ⟨n0, rfl, by omega, q4⟩) eR
        · rw [if_neg q4] at eR ⊢
          exact hf ns h e n0 eR.symm
      · rw [if_neg q3]
        rw [if_neg q3] at eR
        rw [c.st]
        by_cases q4 : σ.st = 3
        · rw [if_pos q4] at eR ⊢
          rw [w32_id (z := 0 * 10) (by omega) (by omega), w32_id (z := 0 * 10 + (S.txt p - 48)) (by omega) (by omega), if_pos (by omega)]
          exact ih n (p + 1) σ p (S.txt p - 48) _ h (by omega) (by omega) (by omega) e c pi (by omega) (Or.inr ⟨p0, by omega, by omega, by omega⟩) eR
        · rw [if_neg q4] at eR ⊢
          exact hf p h e p0 eR.symm
  unfold w_X5_startOver
  simp only [hb_p]
  refine loop S.size.toNat NF 0 PS0 (-1) 0 0 _ (by rw [NF_eq]; omega) (by omega) (by omega) (fun a a1 a2 a3 => by rw [up_ne a1, up_ne a1, up_ne a1, up_ne a1, up_ne a1, up_ne a1]) ?_ PI0 (by show -(10000 * 0) ≤ (0 : Int) ∧ (0 : Int) ≤ 10000 * 0; omega) (Or.inl rfl) rfl
  refine ⟨?_, ?_, ?_, ?_, ?_, ?_, ?_, ?_⟩
  · simp only [up_at, Int.reduceEq, reduceIte]; rfl
  · simp only [up_at, Int.reduceEq, reduceIte]; rfl
  · simp only [up_at, Int.reduceEq, reduceIte]; rfl
  · simp only [up_at, Int.reduceEq, reduceIte]; rfl
  · intro w
    rcases w with w | w <;> exact absurd w (by decide)
  · intro d d1 d2
    simp only [up_at, Int.reduceEq, reduceIte]
    have z : i32 0 &&& i32 (shv (d - 97)) = 0 := z_and _
    rw [z]
    refine ⟨fun _ => ?_, fun _ => rfl⟩
    rintro ⟨i, i0, i1, _⟩
    have i2 : i < 0 := i1
    omega
  · intro k k0 k1
    have k2 : k < 0 := k1
    omega
  · intro k k0 k1
    have k2 : k < 0 := k1
    omega
