/-! PURE 15: flat sums; read, lead, span -/
theorem nst_sum {y l r Y : Int} (hl : 1 ≤ l) (hr : 1 ≤ r) (hy : -Y ≤ y ∧ y ≤ Y) : -(2 * Y + 1) ≤ nst (y * (l + r)) (l * r) ∧ nst (y * (l + r)) (l * r) ≤ 2 * Y + 1 := by
  have lr2 : l + r ≤ 2 * (l * r) := by
    have : 0 ≤ (l - 1) * (r - 1) := Int.mul_nonneg (by omega) (by omega)
    grind
  have lr0 : 0 < l * r := Int.mul_pos (by omega) (by omega)
  have Y0 : 0 ≤ Y := by omega
  have e1 : y * (l + r) ≤ Y * (l + r) := Int.mul_le_mul_of_nonneg_right hy.2 (by omega)
  have e2 : -Y * (l + r) ≤ y * (l + r) := Int.mul_le_mul_of_nonneg_right hy.1 (by omega)
  have e3 : Y * (l + r) ≤ Y * (2 * (l * r)) := Int.mul_le_mul_of_nonneg_left lr2 Y0
  unfold nst
  constructor
  · apply Int.le_ediv_of_mul_le (by omega)
    grind
  · have := Int.ediv_lt_of_lt_mul (a := 2 * (y * (l + r)) + l * r) (b := 2 * Y + 2) (c := 2 * (l * r)) (by omega) (by grind)
    omega
/-- the last sum on flat paper, page by page -/
def St.fl (S : St) (c e : Int) (v : Int → Int) : Nat → Int
  | 0 => v 0
  | p + 1 => S.sum c p (S.meet c p (S.left c p * St.fl S c e v p) (S.right c p * v (p + 1)) + e)
theorem fl_bd {S : St} {c e : Int} {v : Int → Int} (ok : ChartOk S c) (ht : S.terms (S.crule c) ≤ 5) (he : -50 ≤ e ∧ e ≤ 50) (hv : ∀ k, 0 ≤ k → k < S.terms (S.crule c) - 1 → -10000 ≤ v k ∧ v k ≤ 10000) (h3 : 3 ≤ S.terms (S.crule c)) : ∀ p : Nat, (p : Int) ≤ S.terms (S.crule c) - 2 → -20000000000 ≤ S.fl c e v p ∧ S.fl c e v p ≤ 20000000000 := by
  have hw := ok.wide
  have stp : ∀ (p : Nat) (F : Int), (p : Int) < S.terms (S.crule c) - 2 → 10000 ≤ F → -F ≤ S.fl c e v p ∧ S.fl c e v p ≤ F → -(2 * (50 * F + 50) + 1) ≤ S.fl c e v (p + 1) ∧ S.fl c e v (p + 1) ≤ 2 * (50 * F + 50) + 1 := by
    intro p F h1 h2 h4
    have l := ok.left p (by omega) h1
    have r := ok.right p (by omega) h1
    have vb := hv (p + 1) (by omega) (by omega)
    have qi := mid_in (W := S.wide c) (l := S.left c p) (r := S.right c p) (by omega) (by omega) (by omega)
    have m1 := mul_bd (a := S.left c p) (A := 50) (b := S.fl c e v p) (B := F) (by omega) h4
    have m2 := mul_bd (a := S.right c p) (A := 50) (b := v (p + 1)) (B := F) (by omega) (by omega)
    have mi := meet_in (W := S.wide c) (q := S.mid c p) (by omega) qi.1 qi.2 m1 m2
    exact nst_sum l.1 r.1 (y := S.meet c p (S.left c p * S.fl c e v p) (S.right c p * v (p + 1)) + e) ⟨by unfold St.meet; omega, by unfold St.meet; omega⟩
  have b0 := hv 0 (by omega) (by omega)
  intro p hp
  match p, hp with
  | 0, _ =>
    show -20000000000 ≤ v 0 ∧ v 0 ≤ 20000000000
    omega
  | 1, hp =>
    have := stp 0 10000 (by omega) (by omega) b0
    show -20000000000 ≤ S.fl c e v (0 + 1) ∧ S.fl c e v (0 + 1) ≤ 20000000000
    omega
  | 2, hp =>
    have s1 := stp 0 10000 (by omega) (by omega) b0
    have s2 := stp 1 1000101 (by omega) (by omega) (by show -1000101 ≤ S.fl c e v (0 + 1) ∧ S.fl c e v (0 + 1) ≤ 1000101; omega)
    show -20000000000 ≤ S.fl c e v (1 + 1) ∧ S.fl c e v (1 + 1) ≤ 20000000000
    omega
  | 3, hp =>
    have s1 := stp 0 10000 (by omega) (by omega) b0
    have s2 := stp 1 1000101 (by omega) (by omega) (by show -1000101 ≤ S.fl c e v (0 + 1) ∧ S.fl c e v (0 + 1) ≤ 1000101; omega)
    have s3 := stp 2 100010201 (by omega) (by omega) (by show -100010201 ≤ S.fl c e v (1 + 1) ∧ S.fl c e v (1 + 1) ≤ 100010201; omega)
    show -20000000000 ≤ S.fl c e v (2 + 1) ∧ S.fl c e v (2 + 1) ≤ 20000000000
    omega
  | p + 4, hp => omega
theorem c_lastSum {h : Hh} {C c a e : Int} {S : St} {v : Int → Int} (cc : ChartC h C S c) (ok : ChartOk S c) (ht : 3 ≤ S.terms (S.crule c) ∧ S.terms (S.crule c) ≤ 5) (ha : 0 ≤ a) (he : -50 ≤ e ∧ e ≤ 50) (hv : ∀ k, 0 ≤ k → k < S.terms (S.crule c) - 1 → -10000 ≤ v k ∧ v k ≤ 10000) (hn : ∀ k, 0 ≤ k → k < S.terms (S.crule c) - 1 → h a k = v k) {K : Int → Hh → Prop} (hK : K (S.fl c e v (S.terms (S.crule c) - 2).toNat) h) : w_X0_lastSumOnFlat C a 4 e h K := by
  have hw := ok.wide
  unfold w_X0_lastSumOnFlat w_X0_lastSumOnFlat_12
  rw [and_t ha, if_neg (by decide), and_t (by omega), hn 0 (by omega) (by omega)]
  have loop : ∀ (k n : Nat) (p : Nat), k < n → S.terms (S.crule c) - 2 - p ≤ k → (p : Int) ≤ S.terms (S.crule c) - 2 → w_X0_lastSumOnFlat_16 K (fun u11 h10 => w_X0_lastSumOnFlat_81 K C u11 h10) C n a 4 e (S.fl c e v p) p h := by
    intro k
    induction k with
    | zero =>
      intro n p hn1 hk hp
      obtain ⟨n, rfl⟩ : ∃ m, n = m + 1 := ⟨n - 1, by omega⟩
      rw [w_X0_lastSumOnFlat_16, cc.pages, if_pos (by omega)]
      rw [show p = (S.terms (S.crule c) - 2).toNat by omega]
      exact hK
    | succ k ih =>
      intro n p hn1 hk hp
      obtain ⟨n, rfl⟩ : ∃ m, n = m + 1 := ⟨n - 1, by omega⟩
      rw [w_X0_lastSumOnFlat_16, cc.pages]
      by_cases h1 : (p : Int) ≥ S.terms (S.crule c) - 2
      · rw [if_pos h1]
        rw [show p = (S.terms (S.crule c) - 2).toNat by omega]
        exact hK
      · have l := ok.left p (by omega) (by omega)
        have r := ok.right p (by omega) (by omega)
        have vb := hv (p + 1) (by omega) (by omega)
        have fb := fl_bd ok ht.2 he hv ht.1 p hp
        have m1 := mul_bd (a := S.left c p) (A := 50) (b := S.fl c e v p) (B := 20000000000) (by omega) fb
        have m2 := mul_bd (a := S.right c p) (A := 50) (b := v (p + 1)) (B := 20000000000) (by omega) (by omega)
        have qi := mid_in (W := S.wide c) (l := S.left c p) (r := S.right c p) (by omega) (by omega) (by omega)
        have mi := meet_in (W := S.wide c) (q := S.mid c p) (by omega) qi.1 qi.2 m1 m2
        have mi2 : -1000000000000 ≤ S.meet c p (S.left c p * S.fl c e v p) (S.right c p * v (p + 1)) ∧ S.meet c p (S.left c p * S.fl c e v p) (S.right c p * v (p + 1)) ≤ 1000000000000 := by unfold St.meet; omega
        rw [if_neg h1, and_t ha, w32_id (by omega) (by omega), if_neg (by omega), and_t (by omega), and_t (by omega), cc.left p (by omega) (by omega), cc.right p (by omega) (by omega), hn (p + 1) (by omega) (by omega), w64_id (by omega) (by omega), w64_id (by omega) (by omega), c_meets cc ok ht.2 (by omega) (by omega) (by omega) (by omega), w64_id (by omega) (by omega), c_sumAt cc ok ht.2 (by omega) (by omega) (by omega)]
        simp only [vb_p]
        have := ih n (p + 1) (by omega) (by omega) (by omega)
        exact this
  exact loop 5 NF 0 (by decide) (by omega) (by omega)
/-- the reference's spans: both ends at once -/
theorem r_spans {h0 : Hh} {S : St} {c e : Int} {v : Int → Int} (x : Mx h0 S) (hc : 0 ≤ c ∧ c < S.charts) (he : 0 ≤ e ∧ e ≤ 50)
    (hv : ∀ k, 0 ≤ k → k < S.terms (S.crule c) - 1 → (0 ≤ h0 69 k ∧ h0 69 k < S.terms (S.crule c)) ∧ (0 ≤ h0 64 k ∧ h0 64 k < S.many (S.crule c) (h0 69 k)) ∧ S.sg (S.crule c) (h0 69 k) (h0 64 k) = v k) {K : Int → Hh → Prop}
    (hK : ∀ h, (∀ a, a ≠ 33 → h a = h0 a) → (∀ k, k ≠ 50 → k ≠ 51 → h 33 k = h0 33 k) → h 33 50 = S.fl c (-e) v (S.terms (S.crule c) - 2).toNat → h 33 51 = S.fl c e v (S.terms (S.crule c) - 2).toNat → K 0 h) : w_X11_spans 33 c e h0 K := by
  have q1 := x.wf.charts
  have q2 := x.wf.rules
  have ok := x.wf.chart c hc.1 hc.2
  have rok := x.wf.rule _ ok.rule.1 ok.rule.2
  have rr := ok.rule
  have ht := rok.terms
  have hw := ok.wide
  have vbd : ∀ k, 0 ≤ k → k < S.terms (S.crule c) - 1 → -10000 ≤ v k ∧ v k ≤ 10000 := fun k h1 h2 => by
    obtain ⟨a1, a2, a3⟩ := hv k h1 h2
    rw [← a3]
    exact sg_bd rok a1.1 a1.2 a2.1 a2.2
  have eqm : ∀ h : Hh, (∀ a, a ≠ 33 → h a = h0 a) → (∀ k, k ≠ 50 → k ≠ 51 → h 33 k = h0 33 k) → Mx h S := fun h g1 g2 => x.keep (fun a k q => by
    by_cases e : a = 33
    · subst e; exact g2 k (fun w => q (by unfold scM; omega)) (fun w => q (by unfold scM; omega))
    · rw [g1 a e])
  obtain ⟨a1, a2, a3⟩ := hv 0 (by omega) (by omega)
  unfold w_X11_spans
  simp only [Int.reduceAdd, vb_p, hb_p]
  rw [and_t (by omega), and_t (by omega), x.rep.crule c hc.1 hc.2, r_signed x rr a1 a2, a3]
  rw [show up h0 33 50 (v 0) 33 50 = v 0 by rw [up_at, if_pos rfl]]
  have loop : ∀ (k n : Nat) (p : Nat) (h : Hh), k < n → S.terms (S.crule c) - 2 - p ≤ k → (p : Int) ≤ S.terms (S.crule c) - 2 → (∀ a, a ≠ 33 → h a = h0 a) → (∀ k, k ≠ 50 → k ≠ 51 → h 33 k = h0 33 k) → h 33 50 = S.fl c (-e) v p → h 33 51 = S.fl c e v p → w_X11_spans_39 K 33 n c e (S.crule c) p h := by
    intro k
    induction k with
    | zero =>
      intro n p h hn1 hk hp g1 g2 g3 g4
      obtain ⟨n, rfl⟩ : ∃ m, n = m + 1 := ⟨n - 1, by omega⟩
      have y := eqm h g1 g2
      rw [w_X11_spans_39, r_pagesOf y hc, if_pos (by omega)]
      have ep : p = (S.terms (S.crule c) - 2).toNat := by omega
      rw [ep] at g3 g4
      exact hK h g1 g2 g3 g4
    | succ k ih =>
      intro n p h hn1 hk hp g1 g2 g3 g4
      obtain ⟨n, rfl⟩ : ∃ m, n = m + 1 := ⟨n - 1, by omega⟩
      have y := eqm h g1 g2
      rw [w_X11_spans_39, r_pagesOf y hc]
      by_cases h1 : (p : Int) ≥ S.terms (S.crule c) - 2
      · rw [if_pos h1]
        have ep : p = (S.terms (S.crule c) - 2).toNat := by omega
        rw [ep] at g3 g4
        exact hK h g1 g2 g3 g4
      · have l := ok.left p (by omega) (by omega)
        have r := ok.right p (by omega) (by omega)
        have vv := vbd (p + 1) (by omega) (by omega)
        have fb := fl_bd ok ht.2 (e := -e) (by omega) vbd ht.1 p hp
        have fb2 := fl_bd ok ht.2 (e := e) (by omega) vbd ht.1 p hp
        have m1 := mul_bd (a := S.left c p) (A := 50) (b := S.fl c (-e) v p) (B := 20000000000) (by omega) fb
        have m3 := mul_bd (a := S.left c p) (A := 50) (b := S.fl c e v p) (B := 20000000000) (by omega) fb2
        have m2 := mul_bd (a := S.right c p) (A := 50) (b := v (p + 1)) (B := 20000000000) (by omega) (by omega)
        have qi := mid_in (W := S.wide c) (l := S.left c p) (r := S.right c p) (by omega) (by omega) (by omega)
        have mi := meet_in (W := S.wide c) (q := S.mid c p) (by omega) qi.1 qi.2 m1 m2
        have mj := meet_in (W := S.wide c) (q := S.mid c p) (by omega) qi.1 qi.2 m3 m2
        have mp := mul_bd (a := S.right c p * v (p + 1) - S.left c p * S.fl c (-e) v p) (b := S.mid c p) (A := 2000000000000) (B := 1000) (by omega) (by unfold St.mid; omega)
        have mq := mul_bd (a := S.right c p * v (p + 1) - S.left c p * S.fl c e v p) (b := S.mid c p) (A := 2000000000000) (B := 1000) (by omega) (by unfold St.mid; omega)
        obtain ⟨b1, b2, b3⟩ := hv (p + 1) (by omega) (by omega)
        rw [if_neg h1, w32_id (z := 3 * c) (by omega) (by omega), w32_id (z := 3 * c + (p : Int)) (by omega) (by omega), and_t (by omega), w32_id (z := (p : Int) + 1) (by omega) (by omega), and_t (by omega)]
        simp only [Int.reduceAdd, vb_p, hb_p]
        rw [g1 69 (by omega), g1 64 (by omega), r_signed y rr b1 b2, b3, y.rep.right c p hc.1 hc.2 (by omega) (by omega), y.rep.left c p hc.1 hc.2 (by omega) (by omega), g3, g4, w64_id (z := S.right c p * v (p + 1)) (by omega) (by omega), w64_id (z := S.left c p * S.fl c (-e) v p) (by omega) (by omega), w64_id (z := S.left c p * S.fl c e v p) (by omega) (by omega), r_mid y hc (by omega), and_t (by omega), y.rep.wide c hc.1 hc.2, w64_id (z := S.right c p * v (p + 1) - S.left c p * S.fl c (-e) v p) (by omega) (by omega), w64_id (z := (S.right c p * v (p + 1) - S.left c p * S.fl c (-e) v p) * S.mid c p) (by omega) (by omega), e_nearM (by omega) (by omega) (by omega)]
        have em : S.left c p * S.fl c (-e) v p + (2 * ((S.right c p * v (p + 1) - S.left c p * S.fl c (-e) v p) * S.mid c p) + S.wide c) / (2 * S.wide c) = S.meet c p (S.left c p * S.fl c (-e) v p) (S.right c p * v (p + 1)) := rfl
        have en : S.left c p * S.fl c e v p + (2 * ((S.right c p * v (p + 1) - S.left c p * S.fl c e v p) * S.mid c p) + S.wide c) / (2 * S.wide c) = S.meet c p (S.left c p * S.fl c e v p) (S.right c p * v (p + 1)) := rfl
        have mi2 : -1000000000000 ≤ S.meet c p (S.left c p * S.fl c (-e) v p) (S.right c p * v (p + 1)) ∧ S.meet c p (S.left c p * S.fl c (-e) v p) (S.right c p * v (p + 1)) ≤ 1000000000000 := by unfold St.meet; omega
        have mj2 : -1000000000000 ≤ S.meet c p (S.left c p * S.fl c e v p) (S.right c p * v (p + 1)) ∧ S.meet c p (S.left c p * S.fl c e v p) (S.right c p * v (p + 1)) ≤ 1000000000000 := by unfold St.meet; omega
        rw [em, w64_id (z := S.meet c p (S.left c p * S.fl c (-e) v p) (S.right c p * v (p + 1))) (by omega) (by omega), w64_id (by omega) (by omega), r_sumAt y hc (by omega) (by omega)]
        have es : S.sum c p (S.meet c p (S.left c p * S.fl c (-e) v p) (S.right c p * v (p + 1)) - e) = S.fl c (-e) v (p + 1) := rfl
        have et : S.sum c p (S.meet c p (S.left c p * S.fl c e v p) (S.right c p * v (p + 1)) + e) = S.fl c e v (p + 1) := rfl
        rw [es]
        have k1 : ∀ a, a ≠ 33 → (up h 33 50 (S.fl c (-e) v (p + 1))) a = h0 a := fun a ha => by rw [up_ne ha]; exact g1 a ha
        have k2 : ∀ k, k ≠ 50 → k ≠ 51 → (up h 33 50 (S.fl c (-e) v (p + 1))) 33 k = h0 33 k := fun k ha hb => by rw [up_at, if_neg ha]; exact g2 k ha hb
        have z := eqm _ k1 k2
        generalize hh1 : up h 33 50 (S.fl c (-e) v (p + 1)) = h1 at *
        have f50 : h1 33 50 = S.fl c (-e) v (p + 1) := by rw [← hh1, up_at, if_pos rfl]
        rw [r_mid z hc (by omega), z.rep.wide c hc.1 hc.2, w64_id (z := S.right c p * v (p + 1) - S.left c p * S.fl c e v p) (by omega) (by omega), w64_id (z := (S.right c p * v (p + 1) - S.left c p * S.fl c e v p) * S.mid c p) (by omega) (by omega), e_nearM (by omega) (by omega) (by omega), en, w64_id (z := S.meet c p (S.left c p * S.fl c e v p) (S.right c p * v (p + 1))) (by omega) (by omega), w64_id (by omega) (by omega), r_sumAt z hc (by omega) (by omega), et]
        refine ih n (p + 1) _ (by omega) (by omega) (by omega) (fun a ha => by rw [up_ne ha]; exact k1 a ha) (fun k ha hb => by rw [up_at, if_neg hb]; exact k2 k ha hb) ?_ ?_
        · rw [up_at, if_neg (by decide)]; exact f50
        · rw [up_at, if_pos rfl]
  refine loop 5 NF 0 _ (by decide) (by omega) (by omega) (fun a ha => by rw [up_ne ha, up_ne ha]) (fun k ha hb => by rw [up_at, if_neg hb, up_at, if_neg ha]) ?_ ?_
  · rw [up_at, if_neg (by decide), up_at, if_pos rfl]; rfl
  · rw [up_at, if_pos rfl]; rfl
