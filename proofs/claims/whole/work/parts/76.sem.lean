/-! PURE 8: what a state says: numbers, pages, walks; how large they are -/
theorem nst_up {d m W : Int} (hW : 0 < W) (h0 : 0 ≤ m) (h1 : m ≤ W) (hd : 0 ≤ d) : 0 ≤ nst (d * m) W ∧ nst (d * m) W ≤ d := by
  have p1 : 0 ≤ d * m := Int.mul_nonneg hd h0
  have p2 : d * m ≤ d * W := Int.mul_le_mul_of_nonneg_left h1 hd
  unfold nst
  constructor
  · exact Int.ediv_nonneg (by omega) (by omega)
  · have := Int.ediv_lt_of_lt_mul (a := 2 * (d * m) + W) (b := d + 1) (c := 2 * W) (by omega) (by grind)
    omega
theorem nst_dn {d m W : Int} (hW : 0 < W) (h0 : 0 ≤ m) (h1 : m ≤ W) (hd : d ≤ 0) : d ≤ nst (d * m) W ∧ nst (d * m) W ≤ 0 := by
  have p1 : d * m ≤ 0 := Int.mul_nonpos_of_nonpos_of_nonneg hd h0
  have p2 : d * W ≤ d * m := Int.mul_le_mul_of_nonpos_left hd h1
  unfold nst
  constructor
  · exact Int.le_ediv_of_mul_le (by omega) (by grind)
  · have := Int.ediv_lt_of_lt_mul (a := 2 * (d * m) + W) (b := 1) (c := 2 * W) (by omega) (by omega)
    omega
theorem mid_bd (W l r : Int) (hl : 0 < l) (hr : 0 < r) : (l + r) * (W * l / (l + r)) ≤ W * l ∧ W * l < (l + r) * (W * l / (l + r)) + (l + r) := fl_lo _ (by omega)
theorem mid_in {W l r : Int} (hW : 0 ≤ W) (hl : 0 < l) (hr : 0 < r) : 0 ≤ W * l / (l + r) ∧ W * l / (l + r) ≤ W := by
  have p : 0 ≤ W * l := Int.mul_nonneg hW (by omega)
  constructor
  · exact Int.ediv_nonneg p (by omega)
  · apply Int.ediv_le_of_le_mul (by omega)
    have : 0 ≤ W * r := Int.mul_nonneg hW (by omega)
    grind
theorem meet_in {a b q W A : Int} (hW : 0 < W) (h0 : 0 ≤ q) (h1 : q ≤ W) (ha : -A ≤ a ∧ a ≤ A) (hb : -A ≤ b ∧ b ≤ A) : -A ≤ a + nst ((b - a) * q) W ∧ a + nst ((b - a) * q) W ≤ A := by
  by_cases h : a ≤ b
  · have := nst_up (d := b - a) hW h0 h1 (by omega)
    omega
  · have := nst_dn (d := b - a) hW h0 h1 (by omega)
    omega
theorem meet_up {a b q W l r A V : Int} (hW : 10 ≤ W) (hl : 1 ≤ l ∧ l ≤ 50) (hr : 1 ≤ r ∧ r ≤ 50) (q1 : (l + r) * q ≤ W * l) (q2 : W * l < (l + r) * q + (l + r)) (q3 : 0 ≤ q) (q4 : q ≤ W) (hA : 0 ≤ A) (hV : 0 ≤ V) (ha : a ≤ l * A) (hb : b ≤ r * V) :
    (l + r) * (a + nst ((b - a) * q) W) ≤ l * r * (7 * A + V + 1) := by
  unfold nst
  have t := fl_lo (2 * ((b - a) * q) + W) (y := 2 * W) (by omega)
  generalize (2 * ((b - a) * q) + W) / (2 * W) = t0 at *
  have u0 : 0 ≤ (W - q) * (l + r) := Int.mul_nonneg (by omega) (by omega)
  have u1 : (W - q) * (l + r) ≤ W * r + (l + r) := by grind
  have v0 : 0 ≤ q * (l + r) := Int.mul_nonneg (by omega) (by omega)
  have v1 : q * (l + r) ≤ W * l := by grind
  have au : a * ((W - q) * (l + r)) ≤ l * A * ((W - q) * (l + r)) := Int.mul_le_mul_of_nonneg_right ha u0
  have lA : 0 ≤ l * A := Int.mul_nonneg (by omega) hA
  have rV : 0 ≤ r * V := Int.mul_nonneg (by omega) hV
  have au2 : l * A * ((W - q) * (l + r)) ≤ l * A * (W * r + (l + r)) := Int.mul_le_mul_of_nonneg_left u1 lA
  have bv : b * (q * (l + r)) ≤ r * V * (q * (l + r)) := Int.mul_le_mul_of_nonneg_right hb v0
  have bv2 : r * V * (q * (l + r)) ≤ r * V * (W * l) := Int.mul_le_mul_of_nonneg_left v1 rV
  have w1 : 10 * r ≤ W * r := Int.mul_le_mul_of_nonneg_right hW (by omega)
  have lr6 : l + r ≤ 6 * (W * r) := by omega
  have au3 : l * A * (W * r + (l + r)) ≤ l * A * (7 * (W * r)) := Int.mul_le_mul_of_nonneg_left (by omega) lA
  have lr2 : l + r ≤ 2 * (l * r) := by
    have : 0 ≤ (l - 1) * (r - 1) := Int.mul_nonneg (by omega) (by omega)
    grind
  have t2 : (l + r) * (2 * W * t0) ≤ (l + r) * (2 * ((b - a) * q) + W) := Int.mul_le_mul_of_nonneg_left t.1 (by omega)
  have lw : W * (l + r) ≤ W * (2 * (l * r)) := Int.mul_le_mul_of_nonneg_left lr2 (by omega)
  have fin : W * ((l + r) * (a + t0)) ≤ W * (l * r * (7 * A + V + 1)) := by grind
  exact Int.le_of_mul_le_mul_left fin (by omega)
theorem meet_dn {a b q W l r A V : Int} (hW : 10 ≤ W) (hl : 1 ≤ l ∧ l ≤ 50) (hr : 1 ≤ r ∧ r ≤ 50) (q1 : (l + r) * q ≤ W * l) (q2 : W * l < (l + r) * q + (l + r)) (q3 : 0 ≤ q) (q4 : q ≤ W) (hA : 0 ≤ A) (hV : 0 ≤ V) (ha : -(l * A) ≤ a) (hb : -(r * V) ≤ b) :
    -(l * r * (7 * A + V + 1)) ≤ (l + r) * (a + nst ((b - a) * q) W) := by
  unfold nst
  have t := fl_lo (2 * ((b - a) * q) + W) (y := 2 * W) (by omega)
  generalize (2 * ((b - a) * q) + W) / (2 * W) = t0 at *
  have u0 : 0 ≤ (W - q) * (l + r) := Int.mul_nonneg (by omega) (by omega)
  have u1 : (W - q) * (l + r) ≤ W * r + (l + r) := by grind
  have v0 : 0 ≤ q * (l + r) := Int.mul_nonneg (by omega) (by omega)
  have v1 : q * (l + r) ≤ W * l := by grind
  have au : -(l * A) * ((W - q) * (l + r)) ≤ a * ((W - q) * (l + r)) := Int.mul_le_mul_of_nonneg_right ha u0
  have lA : 0 ≤ l * A := Int.mul_nonneg (by omega) hA
  have rV : 0 ≤ r * V := Int.mul_nonneg (by omega) hV
  have au2 : l * A * ((W - q) * (l + r)) ≤ l * A * (W * r + (l + r)) := Int.mul_le_mul_of_nonneg_left u1 lA
  have bv : -(r * V) * (q * (l + r)) ≤ b * (q * (l + r)) := Int.mul_le_mul_of_nonneg_right hb v0
  have bv2 : r * V * (q * (l + r)) ≤ r * V * (W * l) := Int.mul_le_mul_of_nonneg_left v1 rV
  have w1 : 10 * r ≤ W * r := Int.mul_le_mul_of_nonneg_right hW (by omega)
  have lr6 : l + r ≤ 6 * (W * r) := by omega
  have au3 : l * A * (W * r + (l + r)) ≤ l * A * (7 * (W * r)) := Int.mul_le_mul_of_nonneg_left (by omega) lA
  have lr2 : l + r ≤ 2 * (l * r) := by
    have : 0 ≤ (l - 1) * (r - 1) := Int.mul_nonneg (by omega) (by omega)
    grind
  have t2 : (l + r) * (2 * ((b - a) * q) + W) ≤ (l + r) * (2 * W * t0 + 2 * W) := Int.mul_le_mul_of_nonneg_left (by omega) (by omega)
  have lw : W * (l + r) ≤ W * (2 * (l * r)) := Int.mul_le_mul_of_nonneg_left lr2 (by omega)
  have fin : W * (-(l * r * (7 * A + V + 1))) ≤ W * ((l + r) * (a + t0)) := by grind
  exact Int.le_of_mul_le_mul_left fin (by omega)
/-- the place read off, as a function -/
noncomputable def bkf (sm lo up y : Int) : Int := by
  classical
  exact if h : ∃ z, bk sm lo up y z then h.choose else 0
theorem bkf_is {sm lo up y : Int} (hp : pap sm lo up) (hy : -3000000000 ≤ y ∧ y ≤ 3000000000) : bk sm lo up y (bkf sm lo up y) := by
  obtain ⟨z, hz, -⟩ := bk_get hp hy
  have h : ∃ z, bk sm lo up y z := ⟨z, hz⟩
  unfold bkf
  rw [dif_pos h]
  exact h.choose_spec
theorem bk_up {sm lo up y z : Int} (hp : pap sm lo up) (hz : bk sm lo up y z) : (0 ≤ z → 950 * z ≤ 1000 * y + 4000000) ∧ (z < 0 → 1000 * y - 4000950 ≤ 950 * z) := by
  obtain ⟨h1, h2⟩ := hz
  have n1 := lies_near (y := z) hp
  have n2 := lies_near (y := z + 1) hp
  constructor
  · intro h0
    have := n1.1 h0
    omega
  · intro h0
    have := n2.2 (by omega)
    omega
/-- one page: the sum behind it -/
theorem page_bd {sm lo up s v q W l r z B B1 D : Int} (hp : pap sm lo up) (hW : 10 ≤ W) (hl : 1 ≤ l ∧ l ≤ 50) (hr : 1 ≤ r ∧ r ≤ 50) (hq : q = W * l / (l + r)) (hs : -B ≤ s ∧ s ≤ B) (hv : -100000 ≤ v ∧ v ≤ 100000) (hB : 0 ≤ B) (hB1 : 1050 * B + 4000000 ≤ 1000 * B1) (hD : 1000 * (7 * B1 + 109000 + 1) + 8001900 ≤ 950 * D)
    (hz : bk sm lo up (lies sm lo up (l * s) + nst ((lies sm lo up (r * v) - lies sm lo up (l * s)) * q) W) z) : -(D + 1) ≤ nst (z * (l + r)) (l * r) ∧ nst (z * (l + r)) (l * r) ≤ D + 1 := by
  have qm := mid_bd W l r (by omega) (by omega)
  have qi := mid_in (W := W) (l := l) (r := r) (by omega) (by omega) (by omega)
  rw [← hq] at qm qi
  have na := lies_near (y := l * s) hp
  have nb := lies_near (y := r * v) hp
  have ls1 : l * s ≤ l * B := Int.mul_le_mul_of_nonneg_left hs.2 (by omega)
  have ls2 : l * (-B) ≤ l * s := Int.mul_le_mul_of_nonneg_left hs.1 (by omega)
  have rv1 : r * v ≤ r * 100000 := Int.mul_le_mul_of_nonneg_left hv.2 (by omega)
  have rv2 : r * (-100000) ≤ r * v := Int.mul_le_mul_of_nonneg_left hv.1 (by omega)
  have lb : 0 ≤ l * B := Int.mul_nonneg (by omega) hB
  have lB1 : 1000 * (l * B1) ≥ l * (1050 * B + 4000000) := by
    have := Int.mul_le_mul_of_nonneg_left hB1 (show 0 ≤ l by omega)
    grind
  have lB2 : l * (1050 * B + 4000000) = 1050 * (l * B) + 4000000 * l := by grind
  have ls2' : -(l * B) ≤ l * s := by have : l * (-B) = -(l * B) := by grind
                                     omega
  have a1 : lies sm lo up (l * s) ≤ l * B1 := by
    by_cases h : 0 ≤ l * s
    · have := na.1 h; omega
    · have := na.2 (by omega); omega
  have a2 : -(l * B1) ≤ lies sm lo up (l * s) := by
    by_cases h : 0 ≤ l * s
    · have := na.1 h; omega
    · have := na.2 (by omega); omega
  have b1 : lies sm lo up (r * v) ≤ r * 109000 := by
    by_cases h : 0 ≤ r * v
    · have := nb.1 h; omega
    · have := nb.2 (by omega); omega
  have b2 : -(r * 109000) ≤ lies sm lo up (r * v) := by
    by_cases h : 0 ≤ r * v
    · have := nb.1 h; omega
    · have := nb.2 (by omega); omega
  have mu := meet_up (A := B1) (V := 109000) hW hl hr qm.1 qm.2 qi.1 qi.2 (by omega) (by omega) a1 b1
  have md := meet_dn (A := B1) (V := 109000) hW hl hr qm.1 qm.2 qi.1 qi.2 (by omega) (by omega) a2 b2
  generalize lies sm lo up (l * s) + nst ((lies sm lo up (r * v) - lies sm lo up (l * s)) * q) W = y at *
  have bz := bk_up hp hz
  have lr2 : l + r ≤ 2 * (l * r) := by
    have : 0 ≤ (l - 1) * (r - 1) := Int.mul_nonneg (by omega) (by omega)
    grind
  have lr0 : 0 < l * r := Int.mul_pos (by omega) (by omega)
  have dd : l * r * (1000 * (7 * B1 + 109000 + 1) + 8001900) ≤ l * r * (950 * D) := Int.mul_le_mul_of_nonneg_left hD (by omega)
  have D0 : 0 ≤ D := by omega
  have lrD : 0 ≤ l * r * D := Int.mul_nonneg (by omega) D0
  have zu : z * (l + r) ≤ l * r * D := by
    by_cases h : 0 ≤ z
    · have e1 := Int.mul_le_mul_of_nonneg_right (bz.1 h) (show 0 ≤ l + r by omega)
      grind
    · have e1 : z * (l + r) ≤ 0 := Int.mul_nonpos_of_nonpos_of_nonneg (by omega) (by omega)
      omega
  have zd : -(l * r * D) ≤ z * (l + r) := by
    by_cases h : 0 ≤ z
    · have e1 : 0 ≤ z * (l + r) := Int.mul_nonneg (by omega) (by omega)
      omega
    · have e1 := Int.mul_le_mul_of_nonneg_right (bz.2 (by omega)) (show 0 ≤ l + r by omega)
      grind
  unfold nst
  constructor
  · apply Int.le_ediv_of_mul_le (by omega)
    grind
  · have := Int.ediv_lt_of_lt_mul (a := 2 * (z * (l + r)) + l * r) (b := D + 2) (c := 2 * (l * r)) (by omega) (by grind)
    omega
def St.sg (S : St) (r t m : Int) : Int := S.sign r t * S.val r t m
def St.mvd (S : St) (c t m d : Int) : Nat → Int
  | 0 => S.sg (S.crule c) t m
  | k + 1 => if S.mC k = c ∧ S.mT k = t ∧ S.mM k = m ∧ S.mD k ≤ d then S.mN k else St.mvd S c t m d k
def St.num (S : St) (c t m d : Int) : Int := S.mvd c t m d S.moves.toNat
/-- the number at a place, as known on a day; as cut -/
def St.nv (S : St) (c M d k : Int) : Int := S.num c (S.ord c k) (dg M (S.terms (S.crule c) - 2 - k)) d
def St.cv (S : St) (c M k : Int) : Int := S.sg (S.crule c) (S.ord c k) (dg M (S.terms (S.crule c) - 2 - k))
def St.mid (S : St) (c p : Int) : Int := S.wide c * S.left c p / (S.left c p + S.right c p)
def St.meet (S : St) (c p a b : Int) : Int := a + nst ((b - a) * S.mid c p) (S.wide c)
def St.sum (S : St) (c p y : Int) : Int := nst (y * (S.left c p + S.right c p)) (S.left c p * S.right c p)
def St.lie (S : St) (c y : Int) : Int := lies (S.seam c) (S.low c) (S.upp c) y
noncomputable def St.bak (S : St) (c y : Int) : Int := bkf (S.seam c) (S.low c) (S.upp c) y
noncomputable def St.wk (S : St) (c M d : Int) : Nat → Int
  | 0 => S.nv c M d 0
  | p + 1 => S.sum c p (S.bak c (S.meet c p (S.lie c (S.left c p * St.wk S c M d p)) (S.lie c (S.right c p * S.nv c M d (p + 1)))))
noncomputable def St.lf (S : St) (c M d : Int) (p : Nat) : Int := S.lie c (S.left c p * S.wk c M d p)
def St.rt (S : St) (c M d : Int) (p : Nat) : Int := S.lie c (S.right c p * S.nv c M d (p + 1))
noncomputable def St.me (S : St) (c M d : Int) (p : Nat) : Int := S.meet c p (S.lf c M d p) (S.rt c M d p)
theorem St.wk_succ (S : St) (c M d : Int) (p : Nat) : S.wk c M d (p + 1) = S.sum c p (S.bak c (S.me c M d p)) := rfl
/-- how large numbers are -/
theorem sg_bd {S : St} {j t m : Int} (hj : RuleOk S j) (h1 : 0 ≤ t) (h2 : t < S.terms j) (h3 : 0 ≤ m) (h4 : m < S.many j t) : -10000 ≤ S.sg j t m ∧ S.sg j t m ≤ 10000 := by
  have v := hj.val t m h1 h2 h3 h4
  unfold St.sg
  rcases hj.sign t h1 h2 with e | e <;> rw [e] <;> omega
theorem mvd_bd {S : St} (w : WF S) {c t m d : Int} (hs : -100000 ≤ S.sg (S.crule c) t m ∧ S.sg (S.crule c) t m ≤ 100000) : ∀ k : Nat, k ≤ S.moves → -100000 ≤ S.mvd c t m d k ∧ S.mvd c t m d k ≤ 100000 := by
  intro k
  induction k with
  | zero => intro _; exact hs
  | succ k ih =>
    intro hk
    unfold St.mvd
    split
    · have := w.mN k (by omega) (by omega)
      omega
    · exact ih (by omega)
theorem nv_bd {S : St} (w : WF S) {c M d k : Int} (hr : RdOk S c M) (h0 : 0 ≤ k) (h1 : k < S.terms (S.crule c) - 1) : -100000 ≤ S.nv c M d k ∧ S.nv c M d k ≤ 100000 := by
  have hc := w.chart c hr.chart.1 hr.chart.2
  have hj := w.rule _ hc.rule.1 hc.rule.2
  have ho := hc.ord k h0 h1
  have hm := hr.dig k h0 h1
  have hd := dg_bd M (S.terms (S.crule c) - 2 - k)
  have := sg_bd hj (t := S.ord c k) (m := dg M (S.terms (S.crule c) - 2 - k)) (by omega) (by omega) hd.1 hm
  exact mvd_bd w (by omega) _ (by have := w.moves; omega)
def WB : Nat → Int
  | 0 => 100000
  | 1 => 927000
  | 2 => 7400000
  | _ => 58000000
theorem wk_bd {S : St} (w : WF S) {c M d : Int} (hr : RdOk S c M) : ∀ p : Nat, (p : Int) ≤ S.terms (S.crule c) - 2 → -(WB p) ≤ S.wk c M d p ∧ S.wk c M d p ≤ WB p := by
  have hc := w.chart c hr.chart.1 hr.chart.2
  have hj := w.rule _ hc.rule.1 hc.rule.2
  have hp := w.papr c
  have ht := hj.terms
  have hw := hc.wide
  have stp : ∀ (p : Nat) (B B1 D : Int), (p : Int) < S.terms (S.crule c) - 2 → -B ≤ S.wk c M d p ∧ S.wk c M d p ≤ B → 0 ≤ B → 1050 * B + 4000000 ≤ 1000 * B1 → 1000 * (7 * B1 + 109000 + 1) + 8001900 ≤ 950 * D → 50 * B1 ≤ 3000000000 → 109000 ≤ B1 → -(D + 1) ≤ S.wk c M d (p + 1) ∧ S.wk c M d (p + 1) ≤ D + 1 := by
    intro p B B1 D h1 h2 h3 h4 h5 h6 h7
    have hl := hc.left p (by omega) h1
    have hR := hc.right p (by omega) h1
    have hv := nv_bd w (d := d) hr (k := p + 1) (by omega) (by omega)
    have qi := mid_in (W := S.wide c) (l := S.left c p) (r := S.right c p) (by omega) (by omega) (by omega)
    have m1 := mul_bd (a := S.left c p) (A := 50) (b := S.wk c M d p) (B := B) (by omega) h2
    have m2 := mul_bd (a := S.right c p) (A := 50) (b := S.nv c M d (p + 1)) (B := 100000) (by omega) hv
    have na := lies_near (y := S.left c p * S.wk c M d p) hp
    have nb := lies_near (y := S.right c p * S.nv c M d (p + 1)) hp
    have a1 : -(50 * B1) ≤ S.lie c (S.left c p * S.wk c M d p) ∧ S.lie c (S.left c p * S.wk c M d p) ≤ 50 * B1 := by
      unfold St.lie
      by_cases h : 0 ≤ S.left c p * S.wk c M d p
      · have := na.1 h; omega
      · have := na.2 (by omega); omega
    have b1 : -(50 * B1) ≤ S.lie c (S.right c p * S.nv c M d (p + 1)) ∧ S.lie c (S.right c p * S.nv c M d (p + 1)) ≤ 50 * B1 := by
      unfold St.lie
      by_cases h : 0 ≤ S.right c p * S.nv c M d (p + 1)
      · have := nb.1 h; omega
      · have := nb.2 (by omega); omega
    have mi := meet_in (W := S.wide c) (q := S.mid c p) (by omega) qi.1 qi.2 a1 b1
    have hz := bkf_is hp (y := S.meet c p (S.lie c (S.left c p * S.wk c M d p)) (S.lie c (S.right c p * S.nv c M d (p + 1)))) ⟨by unfold St.meet; omega, by unfold St.meet; omega⟩
    exact page_bd hp hw.1 hl hR rfl h2 hv h3 h4 h5 hz
  have b0 : -(WB 0) ≤ S.wk c M d 0 ∧ S.wk c M d 0 ≤ WB 0 := nv_bd w (d := d) hr (k := 0) (by omega) (by omega)
  have b1 : (1 : Int) ≤ S.terms (S.crule c) - 2 → -(WB 1) ≤ S.wk c M d 1 ∧ S.wk c M d 1 ≤ WB 1 := fun h => by
    have := stp 0 100000 109000 926900 (by omega) b0 (by omega) (by omega) (by omega) (by omega) (by omega)
    show -(927000) ≤ S.wk c M d (0 + 1) ∧ S.wk c M d (0 + 1) ≤ 927000
    omega
  have b2 : (2 : Int) ≤ S.terms (S.crule c) - 2 → -(WB 2) ≤ S.wk c M d 2 ∧ S.wk c M d 2 ≤ WB 2 := fun h => by
    have := stp 1 927000 977350 7340000 (by omega) (b1 (by omega)) (by omega) (by omega) (by omega) (by omega) (by omega)
    show -(7400000) ≤ S.wk c M d (1 + 1) ∧ S.wk c M d (1 + 1) ≤ 7400000
    omega
  have b3 : (3 : Int) ≤ S.terms (S.crule c) - 2 → -(WB 3) ≤ S.wk c M d 3 ∧ S.wk c M d 3 ≤ WB 3 := fun h => by
    have := stp 2 7400000 7774000 57500000 (by omega) (b2 (by omega)) (by omega) (by omega) (by omega) (by omega) (by omega)
    show -(58000000) ≤ S.wk c M d (2 + 1) ∧ S.wk c M d (2 + 1) ≤ 58000000
    omega
  intro p h
  match p, h with
  | 0, _ => exact b0
  | 1, h => exact b1 (by omega)
  | 2, h => exact b2 (by omega)
  | 3, h => exact b3 (by omega)
  | p + 4, h => omega
/-- all that a page's walk needs -/
theorem wk_small {S : St} (w : WF S) {c M d : Int} (hr : RdOk S c M) (p : Nat) (hp : (p : Int) ≤ S.terms (S.crule c) - 2) : -58000000 ≤ S.wk c M d p ∧ S.wk c M d p ≤ 58000000 := by
  have := wk_bd w (d := d) hr p hp
  have hb : WB p ≤ 58000000 := by
    unfold WB
    split <;> omega
  omega
theorem wk_in {S : St} (w : WF S) {c M d : Int} (hr : RdOk S c M) (p : Nat) (hp : (p : Int) < S.terms (S.crule c) - 2) : -7400000 ≤ S.wk c M d p ∧ S.wk c M d p ≤ 7400000 := by
  have hc := w.chart c hr.chart.1 hr.chart.2
  have ht := (w.rule _ hc.rule.1 hc.rule.2).terms
  have := wk_bd w (d := d) hr p (by omega)
  have hb : WB p ≤ 7400000 := by
    unfold WB
    split
    · omega
    · omega
    · omega
    · rename_i h1 h2 h3
      match p, h1, h2, h3, hp with
      | 0, h1, _, _, _ => exact absurd rfl h1
      | 1, _, h2, _, _ => exact absurd rfl h2
      | 2, _, _, h3, _ => exact absurd rfl h3
      | p + 3, _, _, _, hp => omega
  omega
theorem pts_bd {S : St} (w : WF S) {c M d : Int} (hr : RdOk S c M) (p : Nat) (hp : (p : Int) < S.terms (S.crule c) - 2) :
    (-370000000 ≤ S.left c p * S.wk c M d p ∧ S.left c p * S.wk c M d p ≤ 370000000) ∧ (-5000000 ≤ S.right c p * S.nv c M d (p + 1) ∧ S.right c p * S.nv c M d (p + 1) ≤ 5000000) ∧ (-400000000 ≤ S.lf c M d p ∧ S.lf c M d p ≤ 400000000) ∧ (-400000000 ≤ S.rt c M d p ∧ S.rt c M d p ≤ 400000000) ∧ (-400000000 ≤ S.me c M d p ∧ S.me c M d p ≤ 400000000) := by
  have hc := w.chart c hr.chart.1 hr.chart.2
  have ht := (w.rule _ hc.rule.1 hc.rule.2).terms
  have hw := hc.wide
  have hl := hc.left p (by omega) hp
  have hR := hc.right p (by omega) hp
  have hv := nv_bd w (d := d) hr (k := p + 1) (by omega) (by omega)
  have hs := wk_in w (d := d) hr p hp
  have qi := mid_in (W := S.wide c) (l := S.left c p) (r := S.right c p) (by omega) (by omega) (by omega)
  have m1 := mul_bd (a := S.left c p) (A := 50) (b := S.wk c M d p) (B := 7400000) (by omega) hs
  have m2 := mul_bd (a := S.right c p) (A := 50) (b := S.nv c M d (p + 1)) (B := 100000) (by omega) hv
  have na := lies_near (y := S.left c p * S.wk c M d p) (w.papr c)
  have nb := lies_near (y := S.right c p * S.nv c M d (p + 1)) (w.papr c)
  have a1 : -400000000 ≤ S.lf c M d p ∧ S.lf c M d p ≤ 400000000 := by
    unfold St.lf St.lie
    by_cases h : 0 ≤ S.left c p * S.wk c M d p
    · have := na.1 h; omega
    · have := na.2 (by omega); omega
  have b1 : -400000000 ≤ S.rt c M d p ∧ S.rt c M d p ≤ 400000000 := by
    unfold St.rt St.lie
    by_cases h : 0 ≤ S.right c p * S.nv c M d (p + 1)
    · have := nb.1 h; omega
    · have := nb.2 (by omega); omega
  have mi := meet_in (W := S.wide c) (q := S.mid c p) (by omega) qi.1 qi.2 a1 b1
  exact ⟨by omega, by omega, a1, b1, mi⟩
theorem bak_bd {S : St} (w : WF S) {c y : Int} (hy : -400000000 ≤ y ∧ y ≤ 400000000) : -430000000 ≤ S.bak c y ∧ S.bak c y ≤ 430000000 := by
  have := bk_up (w.papr c) (bkf_is (w.papr c) (y := y) ⟨by omega, by omega⟩)
  unfold St.bak
  by_cases h : 0 ≤ bkf (S.seam c) (S.low c) (S.upp c) y
  · have := this.1 h; omega
  · have := this.2 (by omega); omega
