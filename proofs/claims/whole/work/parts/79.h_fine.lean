/-! PURE 18: page, finest -/
def rPage (c p w : Int) (S : St) : Int := if (0 ≤ c ∧ c < S.charts) ∧ (0 ≤ p ∧ p < S.terms (S.crule c) - 2) ∧ 0 ≤ w ∧ w ≤ 1 then (if w = 0 then S.mid c p else w32 (S.tall c p.toNat (S.left c p) (S.right c p))) else -1
theorem page_C (c p w : Int) (h : Hh) (S : St) (b : Both h S) (K : Int → Hh → Prop) (hK : ∀ h', eqW h h' → K (rPage c p w S) h') : w_X10_page 0 c p w h K := by
  have hK := hK h eqW.rfl'
  unfold rPage at hK
  unfold w_X10_page w_X10_page_21
  rw [b_chartAt b]
  by_cases hc : 0 ≤ c ∧ c < S.charts
  · have x := b.cx hc
    have ca := x.ca
    have ok := x.ok
    have ht := x.ht
    rw [if_pos hc, if_neg (by omega), and_t (by omega), c_hasPage x.cc]
    by_cases hp : 0 ≤ p ∧ p < S.terms (S.crule c) - 2
    · rw [if_pos hp, if_pos (by decide)]
      have l := ok.left p hp.1 hp.2
      have r := ok.right p hp.1 hp.2
      have wd := ok.wide
      by_cases w0 : w = 0
      · have q := mid_in (W := S.wide c) (l := S.left c p) (r := S.right c p) (by omega) (by omega) (by omega)
        rw [if_neg (fun q => q w0), c_midOf x.cc ok ht.2 hp.1 hp.2, w32_id (by unfold St.mid; omega) (by unfold St.mid; omega)]
        rw [if_pos (by omega), if_pos w0] at hK
        exact hK
      · rw [if_pos w0]
        by_cases w1 : w = 1
        · rw [if_neg (fun q => q w1), and_t (by omega), x.cc.left p hp.1 hp.2, x.cc.right p hp.1 hp.2]
          rw [if_pos (by omega), if_neg w0] at hK
          have e : p = ((p.toNat : Nat) : Int) := by omega
          have := c_tallWith x (p := p.toNat) (l := S.left c p) (r := S.right c p) (K := fun r7 h8 => K (w32 r7) h8) (by omega) l r hK
          rw [← e] at this
          exact this
        · rw [if_pos w1]
          rw [if_neg (by omega)] at hK
          exact hK
    · rw [if_neg hp, if_neg (by decide)]
      rw [if_neg (fun q => hp q.2.1)] at hK
      exact hK
  · rw [if_neg hc, if_pos rfl]
    rw [if_neg (fun q => hc q.1)] at hK
    exact hK
theorem page_M (c p w : Int) (h : Hh) (S : St) (x : Mx h S) (K : Int → Hh → Prop) (hK : ∀ h', eqM h h' → K (rPage c p w S) h') : w_X11_page 33 c p w h K := by
  unfold rPage at hK
  unfold w_X11_page w_X11_page_35 w_X11_page_79
  rw [m_isChart x]
  by_cases hc : 0 ≤ c ∧ c < S.charts
  · have q1 := x.wf.charts
    have ok := x.wf.chart c hc.1 hc.2
    have rok := x.wf.rule _ ok.rule.1 ok.rule.2
    have ht := rok.terms
    rw [if_pos hc, if_neg (by decide), r_pagesOf x hc, w32_id (by omega) (by omega), e_in]
    by_cases hp : 0 ≤ p ∧ p < S.terms (S.crule c) - 2
    · rw [if_pos (show 0 ≤ p ∧ p ≤ S.terms (S.crule c) - 2 - 1 by omega), if_neg (by decide), e_in]
      have l := ok.left p hp.1 hp.2
      have r := ok.right p hp.1 hp.2
      by_cases hw : 0 ≤ w ∧ w ≤ 1
      · rw [if_pos ⟨hc, hp, hw⟩] at hK
        rw [if_pos hw, if_pos (by decide)]
        by_cases w0 : w = 0
        · rw [if_neg (fun q => q w0), r_mid x hc hp]
          rw [if_pos w0] at hK
          exact hK h eqM.rfl'
        · rw [if_neg w0] at hK
          rw [if_pos w0, w32_id (z := 3 * c) (by omega) (by omega), w32_id (z := 3 * c + p) (by omega) (by omega), and_t (by omega)]
          simp only [Int.reduceAdd]
          rw [x.rep.left c p hc.1 hc.2 hp.1 hp.2, x.rep.right c p hc.1 hc.2 hp.1 hp.2]
          exact r_tall x hc (p := p.toNat) (by omega) l r (fun h' e => hK h' e.m) (by omega)
      · rw [if_neg (fun q => hw q.2.2)] at hK
        rw [if_neg hw, if_neg (by decide)]
        exact hK h eqM.rfl'
    · rw [if_neg (fun q => hp q.2.1)] at hK
      rw [if_neg (show ¬ (0 ≤ p ∧ p ≤ S.terms (S.crule c) - 2 - 1) by omega), if_pos rfl]
      exact hK h eqM.rfl'
  · rw [if_neg (fun q => hc q.1)] at hK
    rw [if_neg hc, if_pos rfl]
    exact hK h eqM.rfl'
theorem a_page (c p w : Int) : Agree (w_X10_page 0 c p w) (w_X11_page 33 c p w) := agree_q (rPage c p w) (page_C c p w) (page_M c p w)
/-- the best moduli so far -/
def St.bst (S : St) (c : Int) (p : Nat) (high : Int) (q : Int × Int) (l r : Int) : Int × Int :=
  if S.tall c p l r ≤ high ∧ (q.1 = 0 ∨ ((p : Int) = S.terms (S.crule c) - 3 ∧ l * r * (q.1 + q.2) > q.1 * q.2 * (l + r))) then (l, r) else q
def St.inn (S : St) (c : Int) (p : Nat) (high : Int) (q : Int × Int) (i : Int) : Nat → Int × Int
  | 0 => q
  | j + 1 => S.bst c p high (St.inn S c p high q i j) (S.list i) (S.list j)
def St.oun (S : St) (c : Int) (p : Nat) (high : Int) : Nat → Int × Int
  | 0 => (0, 0)
  | i + 1 => S.inn c p high (St.oun S c p high i) i S.listed.toNat
def St.fin (S : St) (c : Int) (p : Nat) (high : Int) : Int := if (S.oun c p high S.listed.toNat).1 = 0 then -1 else (S.oun c p high S.listed.toNat).1 * 100 + (S.oun c p high S.listed.toNat).2
/-- a pair is none or lies in 1..50 -/
def pok (q : Int × Int) : Prop := (q.1 = 0 ∧ q.2 = 0) ∨ ((1 ≤ q.1 ∧ q.1 ≤ 50) ∧ 1 ≤ q.2 ∧ q.2 ≤ 50)
theorem bst_ok {S : St} {c : Int} {p : Nat} {high : Int} {q : Int × Int} {l r : Int} (hq : pok q) (hl : 1 ≤ l ∧ l ≤ 50) (hr : 1 ≤ r ∧ r ≤ 50) : pok (S.bst c p high q l r) := by
  unfold St.bst
  split
  · exact Or.inr ⟨hl, hr⟩
  · exact hq
theorem inn_ok {S : St} (w : WF S) {c : Int} {p : Nat} {high : Int} {q : Int × Int} {i : Int} (hi : 0 ≤ i ∧ i < S.listed) (hq : pok q) : ∀ j : Nat, (j : Int) ≤ S.listed → pok (S.inn c p high q i j) := by
  intro j
  induction j with
  | zero => intro _; exact hq
  | succ j ih => intro hj; exact bst_ok (ih (by omega)) (w.list i hi.1 hi.2) (w.list j (by omega) (by omega))
theorem oun_ok {S : St} (w : WF S) {c : Int} {p : Nat} {high : Int} : ∀ i : Nat, (i : Int) ≤ S.listed → pok (S.oun c p high i) := by
  intro i
  induction i with
  | zero => intro _; exact Or.inl ⟨rfl, rfl⟩
  | succ i ih => intro hi; exact inn_ok w ⟨by omega, by omega⟩ (ih (by omega)) _ (by have := w.listed; omega)
theorem prod_bd {a b : Int} (ha : 0 ≤ a ∧ a ≤ 50) (hb : 0 ≤ b ∧ b ≤ 50) : 0 ≤ a * b ∧ a * b ≤ 2500 := by
  have := mul_bd (a := a) (A := 50) (b := b) (B := 50) (by omega) (by omega)
  have := Int.mul_nonneg ha.1 hb.1
  omega
theorem pok_le {q : Int × Int} (h : pok q) : (0 ≤ q.1 ∧ q.1 ≤ 50) ∧ 0 ≤ q.2 ∧ q.2 ≤ 50 := by
  unfold pok at h
  omega
theorem prod3_bd {x y : Int} (hx : 0 ≤ x ∧ x ≤ 2500) (hy : 0 ≤ y ∧ y ≤ 100) : 0 ≤ x * y ∧ x * y ≤ 250000 := by
  have := mul_bd (a := x) (A := 2500) (b := y) (B := 100) (by omega) (by omega)
  have := Int.mul_nonneg hx.1 hy.1
  omega
theorem c_isFiner {l r a b : Int} (hl : 0 ≤ l ∧ l ≤ 50) (hr : 0 ≤ r ∧ r ≤ 50) (ha : 0 ≤ a ∧ a ≤ 50) (hb : 0 ≤ b ∧ b ≤ 50) (h : Hh) (K : Int → Hh → Prop) : w_X0_isFiner l r a b h K = K (if l * r * (a + b) > a * b * (l + r) then 1 else 0) h := by
  have p1 := prod_bd hl hr
  have p2 := prod_bd ha hb
  have p3 := prod3_bd p1 (y := a + b) (by omega)
  have p4 := prod3_bd p2 (y := l + r) (by omega)
  unfold w_X0_isFiner w_X0_isFiner_22
  rw [w32_id (z := l * r) (by omega) (by omega), w32_id (z := a + b) (by omega) (by omega), w32_id (z := a * b) (by omega) (by omega), w32_id (z := l + r) (by omega) (by omega), w32_id (by omega) (by omega), w32_id (by omega) (by omega)]
  by_cases h1 : l * r * (a + b) > a * b * (l + r)
  · rw [if_neg (by omega), if_pos h1]; simp
  · rw [if_pos (by omega), if_neg h1]; simp
theorem c_finestOf {h : Hh} {S : St} {c : Int} (x : Cx4 h S c) {p : Nat} (hp : (p : Int) < S.terms (S.crule c) - 2) {high : Int} {K : Int → Hh → Prop} (hK : K (S.fin c p high) h) {pi : Int} (hpi : pi = p) : w_X0_finestOf (h 7 c) pi high 8 4 S.listed h K := by
  have w := x.wf
  have ll := w.listed
  have ht := x.ht
  have cc := x.cc
  unfold w_X0_finestOf
  rw [and_t (by omega), e_minI, if_neg (by omega)]
  -- one row
  have row : ∀ (X : Int → Int → Int → Int → Int → Int → Int → Int → Hh → Prop) (i : Nat) (q : Int × Int), (i : Int) < S.listed → pok q → (∀ q', q' = S.inn c p high q i S.listed.toNat → X pi high 8 4 q'.1 q'.2 S.listed i h) → ∀ (k n : Nat) (j : Nat), k < n → S.listed - j ≤ k → (j : Int) ≤ S.listed → ∀ q', q' = S.inn c p high q i j → w_X0_finestOf_28 K X (h 7 c) n pi high 8 4 q'.1 q'.2 S.listed i j h := by
    intro X i q hi hq hX k
    induction k with
    | zero =>
      intro n j hn hk hj q' hq'
      obtain ⟨n, rfl⟩ : ∃ m, n = m + 1 := ⟨n - 1, by omega⟩
      rw [w_X0_finestOf_28, if_pos (by omega)]
      exact hX q' (by rw [hq', show j = S.listed.toNat by omega])
    | succ k ih =>
      intro n j hn hk hj q' hq'
      obtain ⟨n, rfl⟩ : ∃ m, n = m + 1 := ⟨n - 1, by omega⟩
      rw [w_X0_finestOf_28]
      by_cases hj2 : (j : Int) ≥ S.listed
      · rw [if_pos hj2]
        exact hX q' (by rw [hq', show j = S.listed.toNat by omega])
      · have qok : pok q' := by rw [hq']; exact inn_ok w ⟨by omega, hi⟩ hq j hj
        have qle := pok_le qok
        have li := w.list i (by omega) hi
        have lj := w.list j (by omega) (by omega)
        have nxt : ∀ a b : Int, (a, b) = S.bst c p high q' (S.list i) (S.list j) → w_X0_finestOf_111 K (w_X0_finestOf_28 K X (h 7 c) n) X (h 7 c) pi high 8 4 a b S.listed i j h := by
          intro a b hab
          unfold w_X0_finestOf_111
          simp only [vb_p]
          rw [w32_id (by omega) (by omega)]
          exact ih n (j + 1) (by omega) (by omega) (by omega) (a, b) (by rw [hab, hq']; rfl)
        have bet : ∀ s : Int, (s ≠ 0 ↔ (q'.1 = 0 ∨ ((p : Int) = S.terms (S.crule c) - 3 ∧ S.list i * S.list j * (q'.1 + q'.2) > q'.1 * q'.2 * (S.list i + S.list j)))) → w_X0_finestOf_73 K (w_X0_finestOf_28 K X (h 7 c) n) X (h 7 c) pi high 8 4 q'.1 q'.2 S.listed i j s h := by
          intro s hs
          unfold w_X0_finestOf_73
          by_cases s0 : s = 0
          · rw [if_pos s0]
            refine nxt _ _ ?_
            unfold St.bst
            rw [if_neg (fun q => absurd (hs.mpr q.2) (fun w => w s0))]
          · rw [if_neg s0, and_t (by omega), and_t (by omega), and_t (by omega), x.rep.list i (by omega) hi, x.rep.list j (by omega) (by omega), hpi]
            refine c_tallWith x hp li lj ?_
            simp only [vb_p]
            rw [← hpi]
            by_cases ht : S.tall c p (S.list i) (S.list j) > high
            · rw [if_pos ht]
              refine nxt _ _ ?_
              unfold St.bst
              rw [if_neg (by omega)]
            · rw [if_neg ht]
              rw [x.rep.list i (by omega) hi, x.rep.list j (by omega) (by omega)]
              refine nxt _ _ ?_
              unfold St.bst
              rw [if_pos ⟨by omega, hs.mp s0⟩]
        rw [if_neg hj2]
        by_cases h0 : q'.1 = 0
        · rw [if_pos h0]
          exact bet 1 ⟨fun _ => Or.inl h0, fun _ => by decide⟩
        · rw [if_neg h0, cc.pages, w32_id (by omega) (by omega)]
          by_cases h1 : pi ≠ S.terms (S.crule c) - 2 - 1
          · rw [if_pos h1]
            exact bet 0 ⟨fun w => absurd rfl w, fun w => by omega⟩
          · rw [if_neg h1, and_t (by omega), and_t (by omega), and_t (by omega), x.rep.list i (by omega) hi, x.rep.list j (by omega) (by omega), c_isFiner (by omega) (by omega) qle.1 qle.2]
            by_cases h2 : S.list i * S.list j * (q'.1 + q'.2) > q'.1 * q'.2 * (S.list i + S.list j)
            · rw [if_pos h2, if_neg (by decide)]
              exact bet 1 ⟨fun _ => Or.inr ⟨by omega, h2⟩, fun _ => by decide⟩
            · rw [if_neg h2, if_pos rfl]
              exact bet 0 ⟨fun w => absurd rfl w, fun w => by omega⟩
  have col : ∀ (k n : Nat) (i : Nat), k < n → S.listed - i ≤ k → (i : Int) ≤ S.listed → ∀ q', q' = S.oun c p high i → w_X0_finestOf_18 K (fun u28 u29 h27 => if u28 ≠ 0 then (w_X0_finestOf_140 K (h 7 c) (w32 ((w32 (u28 * 100)) + u29)) h27) else (w_X0_finestOf_140 K (h 7 c) (-1) h27)) (h 7 c) n pi high 8 4 q'.1 q'.2 S.listed i h := by
    have fin : ∀ (i : Nat) (q' : Int × Int), (i : Int) = S.listed → q' = S.oun c p high i → (if q'.1 ≠ 0 then (w_X0_finestOf_140 K (h 7 c) (w32 ((w32 (q'.1 * 100)) + q'.2)) h) else (w_X0_finestOf_140 K (h 7 c) (-1) h)) := by
      intro i q' hi hq'
      have qle := pok_le (by rw [hq']; exact oun_ok w i (by omega) : pok q')
      have ei : i = S.listed.toNat := by omega
      rw [ei] at hq'
      unfold St.fin at hK
      rw [← hq'] at hK
      unfold w_X0_finestOf_140
      by_cases h0 : q'.1 = 0
      · rw [if_neg (fun w => w h0)]
        rw [if_pos h0] at hK
        exact hK
      · rw [if_pos h0, w32_id (z := q'.1 * 100) (by omega) (by omega), w32_id (by omega) (by omega)]
        rw [if_neg h0] at hK
        exact hK
    intro k
    induction k with
    | zero =>
      intro n i hn hk hi q' hq'
      obtain ⟨n, rfl⟩ : ∃ m, n = m + 1 := ⟨n - 1, by omega⟩
      rw [w_X0_finestOf_18, if_pos (by omega)]
      exact fin i q' (by omega) hq'
    | succ k ih =>
      intro n i hn hk hi q' hq'
      obtain ⟨n, rfl⟩ : ∃ m, n = m + 1 := ⟨n - 1, by omega⟩
      rw [w_X0_finestOf_18]
      by_cases hi2 : (i : Int) ≥ S.listed
      · rw [if_pos hi2]
        exact fin i q' (by omega) hq'
      · rw [if_neg hi2]
        have qok : pok q' := by rw [hq']; exact oun_ok w i hi
        refine row _ i q' (by omega) qok ?_ 5 NF 0 (by decide) (by omega) (by omega) q' rfl
        intro q2 hq2
        simp only [vb_p]
        rw [w32_id (by omega) (by omega)]
        exact ih n (i + 1) (by omega) (by omega) (by omega) q2 (by rw [hq2, hq']; rfl)
  exact col 5 NF 0 (by decide) (by omega) (by omega) (0, 0) rfl
/-- over the pages -/
def askF (R : Nat → Int) (page : Int) : Nat → Nat → Int → Int
  | 0, _, asked => asked
  | k + 1, p, asked => if R p = -1 then -1 else askF R page k (p + 1) (if (p : Int) = page then R p else asked)
def rFinest (c high page : Int) (S : St) : Int := if (0 ≤ c ∧ c < S.charts) ∧ (0 ≤ page ∧ page < S.terms (S.crule c) - 2) ∧ 10 ≤ high ∧ high ≤ 30000 then askF (fun p => S.fin c p high) page (S.terms (S.crule c) - 2).toNat 0 (-1) else -1
theorem finest_C (c high page : Int) (h : Hh) (S : St) (b : Both h S) (K : Int → Hh → Prop) (hK : ∀ h', eqW h h' → K (rFinest c high page S) h') : w_X10_finest 0 c high page h K := by
  have hK := hK h eqW.rfl'
  unfold rFinest at hK
  unfold w_X10_finest w_X10_finest_34
  rw [b_chartAt b]
  by_cases hc : 0 ≤ c ∧ c < S.charts
  · have x := b.cx hc
    have ca := x.ca
    have ht := x.ht
    have cc := x.cc
    rw [if_pos hc, if_neg (by omega), and_t (by omega), c_hasPage cc]
    by_cases hp : 0 ≤ page ∧ page < S.terms (S.crule c) - 2
    · rw [if_pos hp, if_neg (by decide)]
      by_cases h1 : high < 10
      · rw [if_pos h1]; rw [if_neg (by omega)] at hK; exact hK
      · rw [if_neg h1]
        by_cases h2 : high ≤ 30000
        · rw [if_pos h2]
          rw [if_pos (by omega)] at hK
          have loop : ∀ (k n : Nat) (p : Nat) (asked pi : Int), pi = p → k < n → S.terms (S.crule c) - 2 - p = k → K (askF (fun p => S.fin c p high) page k p asked) h → w_X10_finest_42 K 0 n high page (h 7 c) asked pi h := by
            intro k
            induction k with
            | zero =>
              intro n p asked pi hpi hn hk g
              obtain ⟨n, rfl⟩ : ∃ m, n = m + 1 := ⟨n - 1, by omega⟩
              rw [w_X10_finest_42, and_t (by omega), cc.pages, if_pos (by omega)]
              exact g
            | succ k ih =>
              intro n p asked pi hpi hn hk g
              obtain ⟨n, rfl⟩ : ∃ m, n = m + 1 := ⟨n - 1, by omega⟩
              rw [w_X10_finest_42, and_t (by omega), cc.pages, if_neg (by omega), b.c.listed]
              refine c_finestOf x (p := p) (by omega) ?_ hpi
              rw [show askF (fun p => S.fin c p high) page (k + 1) p asked = if S.fin c p high = -1 then -1 else askF (fun p => S.fin c p high) page k (p + 1) (if (p : Int) = page then S.fin c p high else asked) from rfl] at g
              unfold w_X10_finest_88
              simp only [vb_p]
              by_cases h3 : S.fin c p high = -1
              · rw [if_neg (fun w => w h3)]
                rw [if_pos h3] at g
                exact g
              · rw [if_pos h3, w32_id (by omega) (by omega)]
                rw [if_neg h3] at g
                by_cases h4 : (p : Int) = page
                · rw [if_neg (fun w => w (by omega))]
                  rw [if_pos h4] at g
                  exact ih n (p + 1) _ _ (by omega) (by omega) (by omega) g
                · rw [if_pos (by omega)]
                  rw [if_neg h4] at g
                  exact ih n (p + 1) _ _ (by omega) (by omega) (by omega) g
          exact loop (S.terms (S.crule c) - 2).toNat NF 0 (-1) 0 rfl (by have : NF = 20000 := rfl
                                                                         omega) (by omega) hK
        · rw [if_neg h2]; rw [if_neg (by omega)] at hK; exact hK
    · rw [if_neg hp, if_pos rfl]
      rw [if_neg (fun q => hp q.2.1)] at hK
      exact hK
  · rw [if_neg hc, if_pos rfl]
    rw [if_neg (fun q => hc q.1)] at hK
    exact hK
