/-! PURE 19: finest, the reference's -/
def fdq (q : Int × Int) : Int := if q.1 = 0 then -1 else 100 * q.1 + q.2
def ovq (q : Int × Int) : Int := if q.1 = 0 then 0 else q.1 * q.2
def unq (q : Int × Int) : Int := if q.1 = 0 then 1 else q.1 + q.2
theorem r_row {h0 : Hh} {S : St} (x : Mx h0 S) {c : Int} (hc : 0 ≤ c ∧ c < S.charts) {p : Nat} (hp : (p : Int) < S.terms (S.crule c) - 2) {high page asked pi : Int} (hpi : pi = p) {K : Int → Hh → Prop} (X : Int → Int → Int → Int → Int → Int → Int → Int → Int → Hh → Prop) (i : Nat) (q : Int × Int) (hi : (i : Int) < S.listed) (hq : pok q)
    (hX : ∀ h q', eqM h0 h → q' = S.inn c p high q i S.listed.toNat → X c high page (fdq q') asked pi (ovq q') (unq q') i h) : ∀ (k n : Nat) (j : Nat) (h : Hh), k < n → S.listed - j ≤ k → (j : Int) ≤ S.listed → eqM h0 h → ∀ q', q' = S.inn c p high q i j → w_X11_finest_91 K X 33 n c high page (fdq q') asked pi (ovq q') (unq q') i j h := by
  have w := x.wf
  have ll := w.listed
  have ok := w.chart c hc.1 hc.2
  have ht := (w.rule _ ok.rule.1 ok.rule.2).terms
  intro k
  induction k with
  | zero =>
    intro n j h hn hk hj e q' hq'
    obtain ⟨n, rfl⟩ : ∃ m, n = m + 1 := ⟨n - 1, by omega⟩
    have y := x.keep e
    rw [w_X11_finest_91, y.rep.listed, if_pos (by omega)]
    exact hX h q' e (by rw [hq', show j = S.listed.toNat by omega])
  | succ k ih =>
    intro n j h hn hk hj e q' hq'
    obtain ⟨n, rfl⟩ : ∃ m, n = m + 1 := ⟨n - 1, by omega⟩
    have y := x.keep e
    rw [w_X11_finest_91, y.rep.listed]
    by_cases hj2 : (j : Int) ≥ S.listed
    · rw [if_pos hj2]
      exact hX h q' e (by rw [hq', show j = S.listed.toNat by omega])
    · have qok : pok q' := by rw [hq']; exact inn_ok w ⟨by omega, hi⟩ hq j hj
      have qle := pok_le qok
      have li := w.list i (by omega) hi
      have lj := w.list j (by omega) (by omega)
      have p1 := prod_bd (a := S.list i) (b := S.list j) (by omega) (by omega)
      rw [if_neg hj2, and_t (by omega)]
      simp only [Int.reduceAdd, vb_p]
      rw [y.rep.list i (by omega) hi, y.rep.list j (by omega) (by omega), and_t (by omega)]
      refine r_tall y hc hp li lj (fun h2 e2 => ?_) hpi
      have e3 : eqM h0 h2 := e.trans e2.m
      have z := x.keep e3
      have nxt : ∀ q2, q2 = S.bst c p high q' (S.list i) (S.list j) → w_X11_finest_219 K (w_X11_finest_91 K X 33 n) X 33 c high page (fdq q2) asked pi (ovq q2) (unq q2) i j h2 := by
        intro q2 hq2
        unfold w_X11_finest_219
        simp only [vb_p]
        rw [w32_id (by omega) (by omega)]
        exact ih n (j + 1) h2 (by omega) (by omega) (by omega) e3 q2 (by rw [hq2, hq']; rfl)
      have yes : S.tall c p (S.list i) (S.list j) ≤ high → (q'.1 = 0 ∨ ((p : Int) = S.terms (S.crule c) - 3 ∧ S.list i * S.list j * (q'.1 + q'.2) > q'.1 * q'.2 * (S.list i + S.list j))) → w_X11_finest_178 K (w_X11_finest_91 K X 33 n) X 33 c high page (fdq q') asked pi (ovq q') (unq q') i j (S.list i) (S.list j) h2 := by
        intro a1 a2
        unfold w_X11_finest_178 w_X11_finest_183
        simp only [vb_p]
        rw [if_pos (by decide), w64_id (z := 100 * S.list i) (by omega) (by omega), w64_id (z := 100 * S.list i + S.list j) (by omega) (by omega), w32_id (by omega) (by omega), w64_id (z := S.list i * S.list j) (by omega) (by omega), w64_id (z := S.list i + S.list j) (by omega) (by omega)]
        have g := nxt (S.list i, S.list j) (by unfold St.bst; rw [if_pos ⟨a1, a2⟩])
        have f1 : fdq (S.list i, S.list j) = 100 * S.list i + S.list j := if_neg (show S.list i ≠ 0 by omega)
        have f2 : ovq (S.list i, S.list j) = S.list i * S.list j := if_neg (show S.list i ≠ 0 by omega)
        have f3 : unq (S.list i, S.list j) = S.list i + S.list j := if_neg (show S.list i ≠ 0 by omega)
        rw [f1, f2, f3] at g
        exact g
      have no : ¬ (S.tall c p (S.list i) (S.list j) ≤ high ∧ (q'.1 = 0 ∨ ((p : Int) = S.terms (S.crule c) - 3 ∧ S.list i * S.list j * (q'.1 + q'.2) > q'.1 * q'.2 * (S.list i + S.list j)))) → w_X11_finest_219 K (w_X11_finest_91 K X 33 n) X 33 c high page (fdq q') asked pi (ovq q') (unq q') i j h2 := by
        intro a1
        exact nxt q' (by unfold St.bst; rw [if_neg a1])
      by_cases ht2 : S.tall c p (S.list i) (S.list j) ≤ high
      · rw [if_pos ht2]
        by_cases h0 : q'.1 = 0
        · rw [if_pos (show fdq q' = -1 from if_pos h0)]
          exact yes ht2 (Or.inl h0)
        · have f1 : fdq q' = 100 * q'.1 + q'.2 := if_neg h0
          have f2 : ovq q' = q'.1 * q'.2 := if_neg h0
          have f3 : unq q' = q'.1 + q'.2 := if_neg h0
          have p2 := prod_bd qle.1 qle.2
          have p3 := prod3_bd p1 (y := q'.1 + q'.2) (by omega)
          have p4 := prod3_bd p2 (y := S.list i + S.list j) (by omega)
          rw [if_neg (show ¬ fdq q' = -1 by omega), r_pagesOf z hc, w32_id (by omega) (by omega)]
          unfold w_X11_finest_182 w_X11_finest_183
          rw [if_neg (show ¬ ((0 : Int) ≠ 0) by decide)]
          by_cases h1 : pi ≠ S.terms (S.crule c) - 2 - 1
          · rw [if_pos h1]
            exact no (by omega)
          · rw [if_neg h1]
            have gy := yes ht2
            rw [f2, f3] at gy ⊢
            have gn := no
            rw [f2, f3] at gn
            rw [w64_id (z := S.list i * S.list j) (by omega) (by omega), w64_id (z := S.list i * S.list j * (q'.1 + q'.2)) (by omega) (by omega), w64_id (z := S.list i + S.list j) (by omega) (by omega), w64_id (z := q'.1 * q'.2 * (S.list i + S.list j)) (by omega) (by omega)]
            by_cases h2 : S.list i * S.list j * (q'.1 + q'.2) > q'.1 * q'.2 * (S.list i + S.list j)
            · rw [if_neg (by omega)]
              exact gy (Or.inr ⟨by omega, h2⟩)
            · rw [if_pos (by omega)]
              exact gn (by omega)
      · rw [if_neg ht2]
        exact no (fun q => ht2 q.1)
theorem r_col {h0 : Hh} {S : St} (x : Mx h0 S) {c : Int} (hc : 0 ≤ c ∧ c < S.charts) {p : Nat} (hp : (p : Int) < S.terms (S.crule c) - 2) {high page asked pi : Int} (hpi : pi = p) {K : Int → Hh → Prop} (X : Int → Int → Int → Int → Int → Int → Hh → Prop)
    (hX : ∀ h, eqM h0 h → X c high page (S.fin c p high) asked pi h) : w_X11_finest_79 K X 33 NF c high page (-1) asked pi 0 1 0 h0 := by
  have w := x.wf
  have ll := w.listed
  have fin : ∀ (i : Nat) (q' : Int × Int) (h : Hh), (i : Int) = S.listed → q' = S.oun c p high i → eqM h0 h → X c high page (fdq q') asked pi h := by
    intro i q' h hi hq' e
    have ei : i = S.listed.toNat := by omega
    have g := hX h e
    have : fdq q' = S.fin c p high := by
      unfold fdq St.fin
      rw [ei] at hq'
      rw [← hq']
      split <;> omega
    rw [this]
    exact g
  have col : ∀ (k n : Nat) (i : Nat) (h : Hh), k < n → S.listed - i ≤ k → (i : Int) ≤ S.listed → eqM h0 h → ∀ q', q' = S.oun c p high i → w_X11_finest_79 K X 33 n c high page (fdq q') asked pi (ovq q') (unq q') i h := by
    intro k
    induction k with
    | zero =>
      intro n i h hn hk hi e q' hq'
      obtain ⟨n, rfl⟩ : ∃ m, n = m + 1 := ⟨n - 1, by omega⟩
      have y := x.keep e
      rw [w_X11_finest_79, y.rep.listed, if_pos (by omega)]
      exact fin i q' h (by omega) hq' e
    | succ k ih =>
      intro n i h hn hk hi e q' hq'
      obtain ⟨n, rfl⟩ : ∃ m, n = m + 1 := ⟨n - 1, by omega⟩
      have y := x.keep e
      rw [w_X11_finest_79, y.rep.listed]
      by_cases hi2 : (i : Int) ≥ S.listed
      · rw [if_pos hi2]
        exact fin i q' h (by omega) hq' e
      · rw [if_neg hi2]
        have qok : pok q' := by rw [hq']; exact oun_ok w i hi
        refine r_row y hc hp hpi _ i q' (by omega) qok ?_ 5 NF 0 h (by decide) (by omega) (by omega) eqM.rfl' q' rfl
        intro h2 q2 e2 hq2
        simp only [vb_p]
        rw [w32_id (by omega) (by omega)]
        exact ih n (i + 1) h2 (by omega) (by omega) (by omega) (e.trans e2) q2 (by rw [hq2, hq']; rfl)
  exact col 5 NF 0 h0 (by decide) (by omega) (by omega) eqM.rfl' (0, 0) rfl
theorem fin_none {S : St} {c : Int} {p : Nat} {high : Int} (h : S.listed = 0) : S.fin c p high = -1 := by
  unfold St.fin
  rw [h]
  rfl
theorem finest_M (c high page : Int) (h : Hh) (S : St) (x : Mx h S) (K : Int → Hh → Prop) (hK : ∀ h', eqM h h' → K (rFinest c high page S) h') : w_X11_finest 33 c high page h K := by
  unfold rFinest at hK
  unfold w_X11_finest w_X11_finest_46
  rw [m_isChart x]
  by_cases hc : 0 ≤ c ∧ c < S.charts
  · have ok := x.wf.chart c hc.1 hc.2
    have ht := (x.wf.rule _ ok.rule.1 ok.rule.2).terms
    rw [if_pos hc, if_neg (by decide), e_in]
    by_cases hh : 10 ≤ high ∧ high ≤ 30000
    · rw [if_pos hh, if_neg (by decide), r_pagesOf x hc, w32_id (by omega) (by omega), e_in]
      by_cases hp : 0 ≤ page ∧ page < S.terms (S.crule c) - 2
      · rw [if_pos ⟨hc, hp, hh⟩] at hK
        rw [if_pos (show 0 ≤ page ∧ page ≤ S.terms (S.crule c) - 2 - 1 by omega), if_neg (by decide), x.rep.listed]
        by_cases hl : S.listed = 0
        · rw [if_neg (fun w => w hl)]
          obtain ⟨k, hk⟩ : ∃ k, (S.terms (S.crule c) - 2).toNat = k + 1 := ⟨(S.terms (S.crule c) - 3).toNat, by omega⟩
          rw [hk] at hK
          have g := hK h eqM.rfl'
          rw [show askF (fun p => S.fin c p high) page (k + 1) 0 (-1) = -1 from if_pos (fin_none hl)] at g
          exact g
        · rw [if_pos hl]
          have loop : ∀ (k n : Nat) (p : Nat) (asked pi : Int) (h1 : Hh), pi = p → k < n → S.terms (S.crule c) - 2 - p = k → eqM h h1 → (∀ h', eqM h h' → K (askF (fun p => S.fin c p high) page k p asked) h') → w_X11_finest_57 K 33 n c high page asked pi h1 := by
            intro k
            induction k with
            | zero =>
              intro n p asked pi h1 hpi hn hk e g
              obtain ⟨n, rfl⟩ : ∃ m, n = m + 1 := ⟨n - 1, by omega⟩
              rw [w_X11_finest_57, r_pagesOf (x.keep e) hc, if_pos (by omega)]
              exact g h1 e
            | succ k ih =>
              intro n p asked pi h1 hpi hn hk e g
              obtain ⟨n, rfl⟩ : ∃ m, n = m + 1 := ⟨n - 1, by omega⟩
              rw [w_X11_finest_57, r_pagesOf (x.keep e) hc, if_neg (by omega)]
              refine r_col (x.keep e) hc (p := p) (by omega) hpi _ (fun h2 e2 => ?_)
              have ee := e.trans e2
              rw [show askF (fun p => S.fin c p high) page (k + 1) p asked = if S.fin c p high = -1 then -1 else askF (fun p => S.fin c p high) page k (p + 1) (if (p : Int) = page then S.fin c p high else asked) from rfl] at g
              unfold w_X11_finest_249
              simp only [vb_p]
              by_cases h3 : S.fin c p high = -1
              · rw [if_neg (fun w => w h3)]
                rw [if_pos h3] at g
                exact g h2 ee
              · rw [if_pos h3, w32_id (by omega) (by omega)]
                rw [if_neg h3] at g
                by_cases h4 : (p : Int) = page
                · rw [if_neg (fun w => w (by omega))]
                  rw [if_pos h4] at g
                  exact ih n (p + 1) _ _ h2 (by omega) (by omega) (by omega) ee g
                · rw [if_pos (by omega)]
                  rw [if_neg h4] at g
                  exact ih n (p + 1) _ _ h2 (by omega) (by omega) (by omega) ee g
          exact loop (S.terms (S.crule c) - 2).toNat NF 0 (-1) 0 h rfl (by have : NF = 20000 := rfl
                                                                           omega) (by omega) eqM.rfl' hK
      · rw [if_neg (fun q => hp q.2.1)] at hK
        rw [if_neg (show ¬ (0 ≤ page ∧ page ≤ S.terms (S.crule c) - 2 - 1) by omega), if_pos rfl]
        exact hK h eqM.rfl'
    · rw [if_neg (fun q => hh q.2.2)] at hK
      rw [if_neg hh, if_pos rfl]
      exact hK h eqM.rfl'
  · rw [if_neg (fun q => hc q.1)] at hK
    rw [if_neg hc, if_pos rfl]
    exact hK h eqM.rfl'
theorem a_finest (c high page : Int) : Agree (w_X10_finest 0 c high page) (w_X11_finest 33 c high page) := agree_q (rFinest c high page) (finest_C c high page) (finest_M c high page)
