/-! PURE 11: the reference's own leaves and walks -/
def Mx (h : Hh) (S : St) : Prop := (RepM h S) ∧ (WF S)
theorem Mx.rep {h : Hh} {S : St} (x__ : Mx h S) : RepM h S := x__.1
theorem Mx.wf {h : Hh} {S : St} (x__ : Mx h S) : WF S := x__.2
theorem Mx.mk' {h : Hh} {S : St} (rep__ : RepM h S) (wf__ : WF S) : Mx h S := ⟨rep__, wf__⟩
theorem Mx.keep {h h' : Hh} {S : St} (x : Mx h S) (e : eqM h h') : Mx h' S := ⟨x.rep.keep e.sm, x.wf⟩
theorem r_isTerm {h : Hh} {S : St} (x : Mx h S) (j t : Int) (K : Int → Hh → Prop) : w_X11_isTerm 33 j t h K = K (if (0 ≤ j ∧ j < S.rules) ∧ 0 ≤ t ∧ t < S.terms j then 1 else 0) h := by
  have q := x.wf.rules
  unfold w_X11_isTerm w_X11_isTerm_38 w_X11_isTerm_39
  rw [x.rep.rules, w32_id (by omega) (by omega), e_in]
  simp only [Int.reduceAdd]
  by_cases h1 : 0 ≤ j ∧ j < S.rules
  · have ok := (x.wf.rule j h1.1 h1.2).terms
    rw [if_pos (show 0 ≤ j ∧ j ≤ S.rules - 1 by omega), if_neg (by decide), and_t (by omega), x.rep.terms j h1.1 h1.2, w32_id (by omega) (by omega), e_in]
    by_cases h2 : 0 ≤ t ∧ t < S.terms j
    · rw [if_pos (show 0 ≤ t ∧ t ≤ S.terms j - 1 by omega), if_neg (by decide), if_pos ⟨h1, h2⟩]; simp
    · rw [if_neg (show ¬ (0 ≤ t ∧ t ≤ S.terms j - 1) by omega), if_pos rfl, if_neg (fun w => h2 w.2)]; simp
  · rw [if_neg (show ¬ (0 ≤ j ∧ j ≤ S.rules - 1) by omega), if_pos rfl, if_neg (fun w => h1 w.1)]; simp
theorem r_valueOf {h : Hh} {S : St} (x : Mx h S) {j t m : Int} (h1 : 0 ≤ j ∧ j < S.rules) (h2 : 0 ≤ t ∧ t < S.terms j) (h3 : 0 ≤ m ∧ m < S.many j t) (K : Int → Hh → Prop) : w_X11_valueOf 33 j t m h K = K (S.val j t m) h := by
  have q := x.wf.rules
  have ok := x.wf.rule j h1.1 h1.2
  have tt := ok.terms
  have mm := many_le ok h2.1 h2.2
  unfold w_X11_valueOf
  rw [w32_id (z := 5 * j) (by omega) (by omega), w32_id (z := 5 * j + t) (by omega) (by omega), w32_id (z := 40 * (5 * j + t)) (by omega) (by omega), w32_id (by omega) (by omega), and_t (by omega)]
  simp only [Int.reduceAdd]
  rw [x.rep.val j t m h1.1 h1.2 h2.1 h2.2 h3.1 h3.2]
theorem r_signed {h : Hh} {S : St} (x : Mx h S) {j t m : Int} (h1 : 0 ≤ j ∧ j < S.rules) (h2 : 0 ≤ t ∧ t < S.terms j) (h3 : 0 ≤ m ∧ m < S.many j t) (K : Int → Hh → Prop) : w_X11_signed 33 j t m h K = K (S.sg j t m) h := by
  have q := x.wf.rules
  have ok := x.wf.rule j h1.1 h1.2
  have tt := ok.terms
  have b := sg_bd ok h2.1 h2.2 h3.1 h3.2
  unfold w_X11_signed
  rw [w32_id (z := 5 * j) (by omega) (by omega), w32_id (z := 5 * j + t) (by omega) (by omega), and_t (by omega), r_valueOf x h1 h2 h3]
  simp only [Int.reduceAdd]
  rw [x.rep.sign j t h1.1 h1.2 h2.1 h2.2]
  unfold St.sg at b ⊢
  rw [w32_id (by omega) (by omega)]
theorem r_pagesOf {h : Hh} {S : St} (x : Mx h S) {c : Int} (hc : 0 ≤ c ∧ c < S.charts) (K : Int → Hh → Prop) : w_X11_pagesOf 33 c h K = K (S.terms (S.crule c) - 2) h := by
  have q := x.wf.charts
  have q2 := x.wf.rules
  have ok := x.wf.chart c hc.1 hc.2
  have tt := (x.wf.rule _ ok.rule.1 ok.rule.2).terms
  have r := ok.rule
  unfold w_X11_pagesOf
  simp only [Int.reduceAdd]
  rw [x.rep.crule c hc.1 hc.2, x.rep.terms _ r.1 r.2, and_t (by omega), and_t (by omega), w32_id (by omega) (by omega)]
theorem r_numberOf {h : Hh} {S : St} (x : Mx h S) {c t m d : Int} (hc : 0 ≤ c ∧ c < S.charts) (h2 : 0 ≤ t ∧ t < S.terms (S.crule c)) (h3 : 0 ≤ m ∧ m < S.many (S.crule c) t) (K : Int → Hh → Prop) : w_X11_numberOf 33 c t m d h K = K (S.num c t m d) h := by
  have q := x.wf.moves
  have q1 := x.wf.charts
  have q2 := x.wf.rules
  have r := (x.wf.chart c hc.1 hc.2).rule
  have ok := x.wf.rule _ r.1 r.2
  have tt := ok.terms
  have b := sg_bd ok h2.1 h2.2 h3.1 h3.2
  unfold w_X11_numberOf
  generalize hN : NF = N
  have hN2 : N = 20000 := hN.symm
  simp only [vb_p, Int.reduceAdd]
  rw [x.rep.moves, w32_id (by omega) (by omega)]
  have loop : ∀ (k n : Nat), k < n → (k : Int) ≤ S.moves → S.mvd c t m d S.moves.toNat = S.mvd c t m d k → w_X11_numberOf_8 K (fun u5 u6 u7 h4 => ((0 : Int) ≤ u5 ∧ (u5 : Int) < 6) ∧ (((0 : Int) ≤ w32 ((w32 (5 * (h4 44 u5))) + u6) ∧ (w32 ((w32 (5 * (h4 44 u5))) + u6) : Int) < 30) ∧ (w_X11_valueOf 33 (h4 44 u5) u6 u7 h4 (fun r11 h12 => K (w32 ((h4 41 (w32 ((w32 (5 * (h4 44 u5))) + u6))) * r11)) h12)))) 33 n c t m d (k - 1) h = K (S.num c t m d) h := by
    intro k
    induction k with
    | zero =>
      intro n hn hk e
      obtain ⟨n, rfl⟩ : ∃ m, n = m + 1 := ⟨n - 1, by omega⟩
      rw [w_X11_numberOf_8, if_pos (by omega), x.rep.crule c hc.1 hc.2, and_t (by omega), w32_id (z := 5 * S.crule c) (by omega) (by omega), w32_id (z := 5 * S.crule c + t) (by omega) (by omega), and_t (by omega), r_valueOf x r h2 h3, x.rep.sign _ t r.1 r.2 h2.1 h2.2]
      rw [show S.num c t m d = S.sg (S.crule c) t m from e]
      unfold St.sg at b ⊢
      rw [w32_id (by omega) (by omega)]
    | succ k ih =>
      intro n hn hk e
      obtain ⟨n, rfl⟩ : ∃ m, n = m + 1 := ⟨n - 1, by omega⟩
      have ek : ((k + 1 : Nat) : Int) - 1 = k := by omega
      rw [ek, w_X11_numberOf_8, if_neg (by omega), and_t (by omega)]
      simp only [Int.reduceAdd, w_X11_numberOf_66, vb_p]
      simp only [x.rep.mC k (by omega) (by omega), x.rep.mT k (by omega) (by omega), x.rep.mM k (by omega) (by omega), x.rep.mN k (by omega) (by omega), x.rep.mD k (by omega) (by omega), w32_id (z := (k : Int) + -1) (by omega) (by omega)]
      have ek2 : (k : Int) + -1 = k - 1 := by omega
      rw [ek2]
      rw [show S.mvd c t m d (k + 1) = if S.mC k = c ∧ S.mT k = t ∧ S.mM k = m ∧ S.mD k ≤ d then S.mN k else S.mvd c t m d k from rfl] at e
      by_cases hcc : S.mC k = c ∧ S.mT k = t ∧ S.mM k = m ∧ S.mD k ≤ d
      · rw [if_neg (by omega), if_neg (by omega), if_neg (by omega), if_neg (by omega)]
        rw [if_pos hcc] at e
        unfold St.num
        rw [e]
      · rw [if_neg hcc] at e
        have g := ih n (by omega) (by omega) e
        split
        · exact g
        · split
          · exact g
          · split
            · exact g
            · split
              · exact g
              · exact absurd ⟨by omega, by omega, by omega, by omega⟩ hcc
  have := loop S.moves.toNat N (by omega) (by omega) rfl
  have e : ((S.moves.toNat : Nat) : Int) = S.moves := by omega
  rw [e] at this
  exact this
theorem r_mid {h : Hh} {S : St} (x : Mx h S) {c p : Int} (hc : 0 ≤ c ∧ c < S.charts) (hp : 0 ≤ p ∧ p < S.terms (S.crule c) - 2) (K : Int → Hh → Prop) : w_X11_mid 33 c p h K = K (S.mid c p) h := by
  have q := x.wf.charts
  have ok := x.wf.chart c hc.1 hc.2
  have tt := (x.wf.rule _ ok.rule.1 ok.rule.2).terms
  have l := ok.left p hp.1 hp.2
  have r := ok.right p hp.1 hp.2
  have w := ok.wide
  have m := mul_bd (a := S.wide c) (b := S.left c p) (A := 1000) (B := 50) (by omega) (by omega)
  have m0 : 0 ≤ S.wide c * S.left c p := Int.mul_nonneg (by omega) (by omega)
  have q := mid_in (W := S.wide c) (l := S.left c p) (r := S.right c p) (by omega) (by omega) (by omega)
  unfold w_X11_mid
  simp only [vb_p, Int.reduceAdd]
  rw [w32_id (z := 3 * c) (by omega) (by omega), w32_id (z := 3 * c + p) (by omega) (by omega), and_t (by omega), x.rep.left c p hc.1 hc.2 hp.1 hp.2, x.rep.right c p hc.1 hc.2 hp.1 hp.2, and_t (by omega), x.rep.wide c hc.1 hc.2, w32_id (z := S.left c p + S.right c p) (by omega) (by omega), and_t (by omega), w32_id (z := S.wide c * S.left c p) (by omega) (by omega), td_pos m0 (by omega), w32_id (by omega) (by omega)]
  rfl
theorem r_sumAt {h : Hh} {S : St} (x : Mx h S) {c p y : Int} (hc : 0 ≤ c ∧ c < S.charts) (hp : 0 ≤ p ∧ p < S.terms (S.crule c) - 2) (hy : -10000000000000 ≤ y ∧ y ≤ 10000000000000) (K : Int → Hh → Prop) : w_X11_sumAt 33 c p y h K = K (S.sum c p y) h := by
  have q := x.wf.charts
  have ok := x.wf.chart c hc.1 hc.2
  have tt := (x.wf.rule _ ok.rule.1 ok.rule.2).terms
  have l := ok.left p hp.1 hp.2
  have r := ok.right p hp.1 hp.2
  have m := mul_bd (a := y) (b := S.left c p + S.right c p) (A := 10000000000000) (B := 100) hy (by omega)
  have m2 := mul_bd (a := S.left c p) (b := S.right c p) (A := 50) (B := 50) (by omega) (by omega)
  have m3 : 0 < S.left c p * S.right c p := Int.mul_pos (by omega) (by omega)
  unfold w_X11_sumAt
  simp only [vb_p, Int.reduceAdd]
  rw [w32_id (z := 3 * c) (by omega) (by omega), w32_id (z := 3 * c + p) (by omega) (by omega), and_t (by omega), x.rep.left c p hc.1 hc.2 hp.1 hp.2, x.rep.right c p hc.1 hc.2 hp.1 hp.2, w64_id (z := S.left c p + S.right c p) (by omega) (by omega), w64_id (z := S.left c p * S.right c p) (by omega) (by omega), w64_id (by omega) (by omega), e_nearM (by omega) m3 (by omega)]
  rfl
theorem r_swells {h : Hh} {S : St} (x : Mx h S) {c y : Int} (hc : 0 ≤ c ∧ c < 6) (hy : -10000000000 ≤ y ∧ y ≤ 10000000000) (K : Int → Hh → Prop) : w_X11_swells 33 c y h K = K (S.lie c y) h := by
  have a1 := x.rep.seam c hc.1 hc.2
  have a2 := x.rep.low c hc.1 hc.2
  have a3 := x.rep.upp c hc.1 hc.2
  have := e_swells (a0 := 33) (c := c) (y := y) (h := h) hc (by simp only [Int.reduceAdd]; rw [a1, a2, a3]; exact x.wf.papr c) hy K
  rw [this]
  simp only [Int.reduceAdd]
  rw [a1, a2, a3]
  rfl
theorem r_back {h : Hh} {S : St} (x : Mx h S) {c y : Int} (hc : 0 ≤ c ∧ c < 6) (hy : -3000000000 ≤ y ∧ y ≤ 3000000000) {K : Int → Hh → Prop} (hK : K (S.bak c y) h) : w_X11_back 33 c y h K := by
  have a1 := x.rep.seam c hc.1 hc.2
  have a2 := x.rep.low c hc.1 hc.2
  have a3 := x.rep.upp c hc.1 hc.2
  refine e_back hc (by simp only [Int.reduceAdd]; rw [a1, a2, a3]; exact x.wf.papr c) hy (S.bak c y) ?_ hK
  simp only [Int.reduceAdd]
  rw [a1, a2, a3]
  exact bkf_is (x.wf.papr c) hy
/-- marks are taken over -/
theorem r_takes {h0 : Hh} {a n f : Int} (ha : 0 ≤ a) (h64 : a ≠ 64) (hf : 0 ≤ f ∧ f + 4 ≤ n) (hn : n ≤ 1000) {K : Int → Hh → Prop} (hK : ∀ h, eqM h0 h → (∀ b, b ≠ 64 → h b = h0 b) → (∀ k, 0 ≤ k → k < 4 → h 64 k = h0 a (f + k)) → K 0 h) : w_X11_takes 33 a n f h0 K := by
  unfold w_X11_takes
  have loop : ∀ (k m : Nat) (i : Int) (h : Hh), k < m → 4 - i ≤ k → 0 ≤ i → i ≤ 4 → eqM h0 h → (∀ b, b ≠ 64 → h b = h0 b) → (∀ k, 0 ≤ k → k < i → h 64 k = h0 a (f + k)) → w_X11_takes_2 K 33 m a n f i h := by
    intro k
    induction k with
    | zero =>
      intro m i h hm hk h1 h2 e e64 hv
      obtain ⟨m, rfl⟩ : ∃ q, m = q + 1 := ⟨m - 1, by omega⟩
      rw [w_X11_takes_2, if_pos (by omega)]
      exact hK h e e64 (fun k q1 q2 => hv k q1 (by omega))
    | succ k ih =>
      intro m i h hm hk h1 h2 e e64 hv
      obtain ⟨m, rfl⟩ : ∃ q, m = q + 1 := ⟨m - 1, by omega⟩
      rw [w_X11_takes_2]
      by_cases h3 : i ≥ 4
      · rw [if_pos h3]
        exact hK h e e64 (fun k q1 q2 => hv k q1 (by omega))
      · rw [if_neg h3, and_t ha, w32_id (z := f + i) (by omega) (by omega), and_t (by omega), and_t (by omega)]
        simp only [hb_p, vb_p, Int.reduceAdd]
        rw [w32_id (by omega) (by omega)]
        refine ih m (i + 1) _ (by omega) (by omega) (by omega) (by omega) (e.up (by unfold scM; omega)) (fun b hb => by rw [up_ne hb]; exact e64 b hb) ?_
        intro k2 q1 q2
        rw [up_at]
        by_cases e2 : k2 = i
        · rw [if_pos e2, e2, e64 a h64]
        · rw [if_neg e2]; exact hv k2 q1 (by omega)
  exact loop 5 NF 0 h0 (by decide) (by omega) (by omega) (by omega) eqM.rfl' (fun _ _ => rfl) (fun k q1 q2 => by omega)
theorem eqM.at {h h' : Hh} (e : eqM h h') {a : Int} (h1 : a ≠ 33) (h2 : ¬ (35 ≤ a ∧ a ≤ 37)) (h3 : ¬ (64 ≤ a ∧ a ≤ 71)) : h' a = h a := funext fun k => e a k (by unfold scM; omega)
/-- the reference's walk -/
theorem r_goes {h0 : Hh} {S : St} {c M d : Int} (x : Mx h0 S) (hr : RdOk S c M) (hm : ∀ k, 0 ≤ k → k < S.terms (S.crule c) - 1 → h0 64 k = dg M (S.terms (S.crule c) - 2 - k)) {K : Int → Hh → Prop}
    (hK : ∀ h, eqM h0 h → (∀ p : Nat, (p : Int) < S.terms (S.crule c) - 2 → h 65 p = S.lf c M d p ∧ h 66 p = S.rt c M d p ∧ h 67 p = S.me c M d p ∧ h 68 p = S.wk c M d (p + 1)) → K (S.f c M d) h) : w_X11_goes 33 c d h0 K := by
  have hc := hr.chart
  have q1 := x.wf.charts
  have q2 := x.wf.rules
  have ok := x.wf.chart c hc.1 hc.2
  have rok := x.wf.rule _ ok.rule.1 ok.rule.2
  have rr := ok.rule
  have ht := rok.terms
  have fb := f_bd x.wf (d := d) hr
  have nv : ∀ (h : Hh) (k : Int), eqM h0 h → 0 ≤ k → k < S.terms (S.crule c) - 1 → ∀ K, w_X11_numberOf 33 c (S.ord c k) (dg M (S.terms (S.crule c) - 2 - k)) d h K = K (S.nv c M d k) h := fun h k e h1 h2 K => by
    have ho := ok.ord k h1 h2
    exact r_numberOf (x.keep e) hc ⟨by omega, by omega⟩ ⟨(dg_bd _ _).1, hr.dig k h1 h2⟩ K
  unfold w_X11_goes
  generalize hN : NF = N
  have hN2 : N = 20000 := hN.symm
  simp only [Int.reduceAdd]
  have o0 := x.rep.ord c 0 hc.1 hc.2 (by omega) (by omega)
  rw [Int.add_zero] at o0
  rw [w32_id (by omega) (by omega), and_t (by omega), and_t (by omega), o0, hm 0 (by omega) (by omega), nv h0 0 eqM.rfl' (by omega) (by omega)]
  have loop : ∀ (k n : Nat) (p : Nat) (h : Hh), k < n → S.terms (S.crule c) - 2 - p ≤ k → (p : Int) ≤ S.terms (S.crule c) - 2 → eqM h0 h → h 64 = h0 64 → (∀ q : Nat, q < p → h 65 q = S.lf c M d q ∧ h 66 q = S.rt c M d q ∧ h 67 q = S.me c M d q ∧ h 68 q = S.wk c M d (q + 1)) → w_X11_goes_25 K (fun u32 u33 h31 => ((0 : Int) ≤ u32 ∧ (u32 : Int) < 6) ∧ (((0 : Int) ≤ h31 44 u32 ∧ (h31 44 u32 : Int) < 6) ∧ (K (w64 (u33 + (h31 39 (h31 44 u32)))) h31))) 33 n c d (S.wk c M d p) p h := by
    intro k
    induction k with
    | zero =>
      intro n p h hn1 hk hp e e64 hv
      obtain ⟨n, rfl⟩ : ∃ m, n = m + 1 := ⟨n - 1, by omega⟩
      have y := x.keep e
      rw [w_X11_goes_25, r_pagesOf y hc, if_pos (by omega), y.rep.crule c hc.1 hc.2, y.rep.const _ rr.1 rr.2, and_t (by omega), and_t (by omega)]
      have ep : p = (S.terms (S.crule c) - 2).toNat := by omega
      have : S.wk c M d p + S.const (S.crule c) = S.f c M d := by unfold St.f; rw [ep]
      rw [this, w64_id (by omega) (by omega)]
      exact hK h e (fun q hq => hv q (by omega))
    | succ k ih =>
      intro n p h hn1 hk hp e e64 hv
      obtain ⟨n, rfl⟩ : ∃ m, n = m + 1 := ⟨n - 1, by omega⟩
      have y := x.keep e
      by_cases hp2 : (p : Int) = S.terms (S.crule c) - 2
      · rw [w_X11_goes_25, r_pagesOf y hc, if_pos (by omega), y.rep.crule c hc.1 hc.2, y.rep.const _ rr.1 rr.2, and_t (by omega), and_t (by omega)]
        have ep : p = (S.terms (S.crule c) - 2).toNat := by omega
        have : S.wk c M d p + S.const (S.crule c) = S.f c M d := by unfold St.f; rw [ep]
        rw [this, w64_id (by omega) (by omega)]
        exact hK h e (fun q hq => hv q (by omega))
      · obtain ⟨p1, p2, p3, p4, p5⟩ := pts_bd x.wf (d := d) hr p (by omega)
        have pb := bak_bd x.wf (c := c) p5
        have o1 := y.rep.ord c (p + 1) hc.1 hc.2 (by omega) (by omega)
        have l1 := ok.left p (by omega) (by omega)
        have r1 := ok.right p (by omega) (by omega)
        have w1 := ok.wide
        have mi := mid_in (W := S.wide c) (l := S.left c p) (r := S.right c p) (by omega) (by omega) (by omega)
        have mb := mul_bd (a := S.rt c M d p - S.lf c M d p) (b := S.mid c p) (A := 800000000) (B := 1000) (by omega) (by unfold St.mid; omega)
        rw [w_X11_goes_25, r_pagesOf y hc, if_neg (by omega), w32_id (z := 4 * c) (by omega) (by omega), w32_id (z := 4 * c + (p : Int)) (by omega) (by omega), w32_id (z := 4 * c + (p : Int) + 1) (by omega) (by omega), w32_id (z := (p : Int) + 1) (by omega) (by omega), and_t (by omega), and_t (by omega)]
        simp only [Int.reduceAdd, hb_p, vb_p]
        rw [show 4 * c + (p : Int) + 1 = 4 * c + ((p : Int) + 1) by omega, o1, e64, hm (p + 1) (by omega) (by omega), nv h (p + 1) e (by omega) (by omega)]
        rw [w32_id (z := 3 * c) (by omega) (by omega), w32_id (z := 3 * c + (p : Int)) (by omega) (by omega), and_t (by omega), y.rep.left c p hc.1 hc.2 (by omega) (by omega), w64_id (by omega) (by omega), r_swells y (by omega) (by omega), and_t (by omega)]
        rw [show S.lie c (S.left c p * S.wk c M d p) = S.lf c M d p from rfl]
        have e1 : eqM h0 (up h 65 p (S.lf c M d p)) := e.up (by unfold scM; omega)
        generalize hh1 : up h 65 p (S.lf c M d p) = h1 at *
        have y1 := x.keep e1
        rw [y1.rep.right c p hc.1 hc.2 (by omega) (by omega), w64_id (by omega) (by omega), r_swells y1 (by omega) (by omega)]
        rw [show S.lie c (S.right c p * S.nv c M d (p + 1)) = S.rt c M d p from rfl]
        have e2 : eqM h0 (up h1 66 p (S.rt c M d p)) := e1.up (by unfold scM; omega)
        have v65 : (up h1 66 p (S.rt c M d p)) 65 p = S.lf c M d p := by rw [up_ne (by omega), ← hh1, up_at, if_pos rfl]
        have v66 : (up h1 66 p (S.rt c M d p)) 66 p = S.rt c M d p := by rw [up_at, if_pos rfl]
        have z64 : (up h1 66 p (S.rt c M d p)) 64 = h0 64 := by rw [up_ne (by omega), ← hh1, up_ne (by omega)]; exact e64
        have hv2 : ∀ q : Nat, q < p → (up h1 66 p (S.rt c M d p)) 65 q = S.lf c M d q ∧ (up h1 66 p (S.rt c M d p)) 66 q = S.rt c M d q ∧ (up h1 66 p (S.rt c M d p)) 67 q = S.me c M d q ∧ (up h1 66 p (S.rt c M d p)) 68 q = S.wk c M d (q + 1) := fun q hq => by
          obtain ⟨a1, a2, a3, a4⟩ := hv q hq
          rw [up_ne (show (65 : Int) ≠ 66 by omega), up_ne (show (67 : Int) ≠ 66 by omega), up_ne (show (68 : Int) ≠ 66 by omega), up_at, if_neg (by omega), ← hh1, up_at, if_neg (by omega), up_ne (show (66 : Int) ≠ 65 by omega), up_ne (show (67 : Int) ≠ 65 by omega), up_ne (show (68 : Int) ≠ 65 by omega)]
          exact ⟨a1, a2, a3, a4⟩
        generalize hh2 : up h1 66 p (S.rt c M d p) = h2 at *
        have y2 := x.keep e2
        rw [r_mid y2 hc (by omega), and_t (by omega), v65, v66, y2.rep.wide c hc.1 hc.2, w64_id (z := S.rt c M d p - S.lf c M d p) (by omega) (by omega), w64_id (z := (S.rt c M d p - S.lf c M d p) * S.mid c p) (by omega) (by omega), e_nearM (by omega) (by omega) (by omega)]
        rw [show S.lf c M d p + (2 * ((S.rt c M d p - S.lf c M d p) * S.mid c p) + S.wide c) / (2 * S.wide c) = S.me c M d p from rfl, w64_id (z := S.me c M d p) (by omega) (by omega)]
        have e3 : eqM h0 (up h2 67 p (S.me c M d p)) := e2.up (by unfold scM; omega)
        have y3 := x.keep e3
        rw [up_at, if_pos rfl]
        refine r_back y3 (by omega) (by omega) ?_
        rw [r_sumAt y3 hc (by omega) (by omega)]
        have ep : ((p : Int) + 1) = ((p + 1 : Nat) : Int) := by omega
        rw [ep, show S.sum c p (S.bak c (S.me c M d p)) = S.wk c M d (p + 1) from rfl]
        refine ih n (p + 1) _ (by omega) (by omega) (by omega) (e3.up (by unfold scM; omega)) (by rw [up_ne (by omega), up_ne (by omega)]; exact z64) ?_
        intro q hq
        have g68 : ∀ z, up (up h2 67 p (S.me c M d p)) 68 p z 68 q = if (q : Int) = p then z else h2 68 q := fun z => by rw [up_at, up_ne (by omega)]
        rw [g68, up_ne (show (65 : Int) ≠ 68 by omega), up_ne (show (66 : Int) ≠ 68 by omega), up_ne (show (67 : Int) ≠ 68 by omega), up_ne (show (65 : Int) ≠ 67 by omega), up_ne (show (66 : Int) ≠ 67 by omega), up_at]
        by_cases eq : q = p
        · subst eq
          rw [if_pos rfl, if_pos rfl]
          exact ⟨v65, v66, rfl, rfl⟩
        · obtain ⟨a1, a2, a3, a4⟩ := hv2 q (by omega)
          rw [if_neg (by omega), if_neg (by omega)]
          exact ⟨a1, a2, a3, a4⟩
  exact loop 5 N 0 h0 (by omega) (by omega) (by omega) eqM.rfl' rfl (fun q hq => by omega)
