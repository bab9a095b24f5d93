/-! PURE 28: range, both -/
theorem ra_chart {S : St} (w : WF S) {j t f s n : Int} (q : raOk j t f s n S) {c : Int} (hc : 0 ≤ c ∧ c < S.charts) : S.crule c ≠ j := by
  intro e
  have m := (w.chart c hc.1 hc.2).many t q.2.1.1 (by rw [e]; exact q.2.1.2)
  rw [e, q.2.2.1] at m
  omega
theorem ra_wf {S : St} (w : WF S) {j t f s n : Int} (q : raOk j t f s n S) {sc' : Int → Int} {scn' : Int} (hs : Scale sc' scn' ((S.ra j t f s n sc' scn').val j 0) ((S.ra j t f s n sc' scn').many j 0)) : WF (S.ra j t f s n sc' scn') := by
  have ch : ∀ c, ChEq S (S.ra j t f s n sc' scn') c := fun c => ⟨rfl, rfl, rfl, rfl, rfl⟩
  have rok := w.rule j q.1.1 q.1.2
  obtain ⟨q1, q2, q3, q4, q5, q6, q7⟩ := q
  exact
    (WF.mk'
      (size__ := w.size)
      (txt__ := w.txt)
      (rules__ := w.rules)
      (rule__ := fun k k1 k2 => by
        by_cases e : k = j
        · subst e
          exact
            (RuleOk.mk'
              (terms__ := rok.terms)
              (const__ := rok.const)
              (kind__ := rok.kind)
              (sign__ := rok.sign)
              (many__ := fun b b1 b2 => by
                show (if k = k ∧ b = t then n else S.many k b) = 0 ∨ _
                by_cases e2 : b = t
                · refine Or.inr ?_
                  show 2 ≤ (if k = k ∧ b = t then n else S.many k b) ∧ (if k = k ∧ b = t then n else S.many k b) ≤ 40
                  rw [if_pos ⟨rfl, e2⟩]; exact q5
                · have g := rok.many b b1 b2
                  have e3 : (S.ra k t f s n sc' scn').many k b = S.many k b := if_neg (fun w => e2 w.2)
                  rw [e3]
                  show (if k = k ∧ b = t then n else S.many k b) = 0 ∨ _
                  rw [if_neg (fun w => e2 w.2)]
                  exact g)
              (val__ := fun b m b1 b2 m1 m2 => by
                have m2 : m < if k = k ∧ b = t then n else S.many k b := m2
                show -10000 ≤ (if k = k ∧ b = t then kval (S.kind k t) (f + s * m) else S.val k b m) ∧ (if k = k ∧ b = t then kval (S.kind k t) (f + s * m) else S.val k b m) ≤ 10000
                by_cases e2 : b = t
                · rw [if_pos ⟨rfl, e2⟩] at m2 ⊢
                  have sm := smul_in q4 (i := m) (n := n) ⟨m1, m2⟩ q5.2
                  exact kval_bd (by omega) (by omega)
                · rw [if_neg (fun w => e2 w.2)] at m2 ⊢
                  exact rok.val b m b1 b2 m1 m2)
              (scale__ := by
                have e1 : (S.ra k t f s n sc' scn').sc k = sc' := if_pos rfl
                have e2 : (S.ra k t f s n sc' scn').scn k = scn' := if_pos rfl
                rw [e1, e2]
                exact hs))
        · exact (w.rule k k1 k2).to (ra_ru e))
      (fresh__ := fun k b hk => by
        have hk : S.rules ≤ k := hk
        show (if k = j ∧ b = t then n else S.many k b) = 0
        rw [if_neg (fun w => by omega)]
        exact w.fresh k b hk)
      (charts__ := w.charts)
      (chart__ := fun c c1 c2 => (w.chart c c1 c2).to (ch c) (ra_ru (ra_chart w ⟨q1, q2, q3, q4, q5, q6, q7⟩ ⟨c1, c2⟩)) (Int.le_refl _))
      (papr__ := w.papr)
      (cfresh__ := w.cfresh)
      (rd__ := by
        rcases w.rd with r | r
        · exact Or.inl r
        · exact Or.inr (r.to (ch _) (ra_ru (ra_chart w ⟨q1, q2, q3, q4, q5, q6, q7⟩ r.chart)) (Int.le_refl _)))
      (now__ := w.now)
      (moves__ := w.moves)
      (mN__ := w.mN)
      (reps__ := w.reps)
      (rep__ := fun i i1 i2 => (w.rep i i1 i2).to (ch _) (ra_ru (ra_chart w ⟨q1, q2, q3, q4, q5, q6, q7⟩ (w.rep i i1 i2).chart)) (Int.le_refl _))
      (rS__ := w.rS)
      (rB__ := w.rB)
      (listed__ := w.listed)
      (list__ := w.list))
theorem range_C (j t f s n : Int) (hf : r32 f) (h : Hh) (S : St) (b : Both h S) (K : Int → Hh → Prop) (hK : ∀ h' S', raR j t f s n S S' → RepC h' S' → WF S' → DuesC h' S' → keepM h h' → K (if raOk j t f s n S then n else -1) h') : w_X10_range 0 j t f s n h K := by
  have no : ¬ raOk j t f s n S → K (-1) h := fun q => by
    have g := hK h S (Or.inl ⟨q, rfl⟩) b.c b.w b.d (fun _ _ _ => rfl)
    rw [if_neg q] at g
    exact g
  unfold w_X10_range w_X10_range_26
  rw [b_ruleAt b]
  by_cases hj : 0 ≤ j ∧ j < S.rules
  · have ok := b.w.rule j hj.1 hj.2
    have rc := b.c.rule j hj.1 hj.2
    have ra := b.c.ra j hj.1 hj.2
    rw [if_pos hj, if_neg (by omega), and_t (by omega), c_canRange rc ok hj hf]
    by_cases q : raOk j t f s n S
    · rw [if_pos q, if_pos (by decide)]
      unfold w_X7_putRange
      rw [c_canRange rc ok hj hf, if_pos q, if_pos (by decide)]
      refine c_putRange rc ok q (by omega) (fun h' sc' scn' k0 rc' hs => ?_)
      have w' := ra_wf b.w q hs
      have g := hK h' (S.ra j t f s n sc' scn') (Or.inr ⟨q, sc', scn', rfl⟩)
      rw [if_pos q] at g
      have k6 := k0 6 (by omega)
      have k7 := k0 7 (by omega)
      have km := k0 (-1) (by omega)
      have kk : ∀ a, 0 ≤ a → a < 72 → h' a = h a := fun a a1 a2 => k0 a (by omega)
      have ch : ∀ c, ChEq S (S.ra j t f s n sc' scn') c := fun c => ⟨rfl, rfl, rfl, rfl, rfl⟩
      refine g ?_ w' ?_ (fun a a1 a2 => kk a (by omega) (by omega))
      · refine RepC.of (by rw [kk 1 (by omega) (by omega)]; exact b.c.size) (by rw [kk 2 (by omega) (by omega)]; exact b.c.txt) ?_ (by rw [kk 0 (by omega) (by omega), k7]; exact b.c.rdC) (by rw [kk 0 (by omega) (by omega)]; exact b.c.rdM) (by rw [kk 0 (by omega) (by omega)]; exact b.c.now) ?_ ?_ (by rw [kk 0 (by omega) (by omega)]; exact b.c.listed) (by rw [kk 8 (by omega) (by omega)]; exact b.c.list)
        · have a := b.c
          refine ⟨by rw [kk 0 (by omega) (by omega)]; exact a.rules, ?_, by rw [k6, km]; exact a.ra, by rw [k6]; exact a.raa, by rw [kk 0 (by omega) (by omega)]; exact a.charts, ?_, by rw [k7, km]; exact a.ca, by rw [k7]; exact a.caa, by rw [k6, k7]; exact a.rca, by rw [km]; exact a.room⟩
          · intro k k1 k2
            rw [k6]
            by_cases e : k = j
            · subst e; exact rc'
            · have r1 := a.ra k k1 k2
              have gap : h 6 k + 11 ≤ h 6 j ∨ h 6 j + 11 ≤ h 6 k := by
                by_cases e2 : k < j
                · exact Or.inl (a.raa k j k1 e2 hj.2)
                · exact Or.inr (a.raa j k hj.1 (by omega) k2)
              exact (a.rule k k1 k2).to (ra_ru e) (fun x x1 x2 => k0 x (by omega)) (b.w.rule k k1 k2).terms.2
          · intro c c1 c2
            rw [k7]
            have r1 := a.ca c c1 c2
            have r2 := a.rca j c hj.1 hj.2 c1 c2
            exact (a.chart c c1 c2).to (ch c) ⟨rfl, rfl, rfl⟩ (ra_ru (ra_chart b.w q ⟨c1, c2⟩)) (fun x x1 x2 => k0 x (by omega)) (by rw [k6])
        · exact b.c.mvp.to ⟨rfl, rfl, rfl, rfl, rfl, rfl⟩ (fun a a1 a2 => kk a (by omega) (by omega))
        · exact b.c.rpp.to ⟨rfl, rfl, rfl, rfl, rfl, rfl⟩ (by rw [kk 15 (by omega) (by omega)]) (fun a a1 a2 => kk a (by omega) (by omega))
      · refine b.d.to (by rw [kk 15 (by omega) (by omega)]) (kk 21 (by omega) (by omega)) (Int.le_refl _) (fun i i1 i2 => ?_)
        exact due_to (ch _) ⟨rfl, rfl, rfl⟩ (ra_ru (ra_chart b.w q (b.w.rep i i1 i2).chart)) ⟨rfl, rfl, rfl, rfl, rfl, rfl⟩ rfl rfl rfl
    · rw [if_neg q, if_neg (by decide)]; exact no q
  · rw [if_neg hj, if_pos rfl]; exact no (fun q => hj q.1)
theorem range_M (j t f s n : Int) (hf : r32 f) (h : Hh) (S S' : St) (x : Mx h S) (hR : raR j t f s n S S') (K : Int → Hh → Prop) (hK : ∀ h', RepM h' S' → keepC h h' → K (if raOk j t f s n S then n else -1) h') : w_X11_range 33 j t f s n h K := by
  have no : ¬ raOk j t f s n S → K (-1) h := fun q => by
    rcases hR with ⟨_, e⟩ | ⟨q2, _⟩
    · subst e
      rw [if_neg q] at hK
      exact hK h x.rep (fun _ _ => rfl)
    · exact absurd q2 q
  have rb := x.wf.rules
  have a := x.rep
  unfold w_X11_range w_X11_range_50
  rw [r_isTerm x]
  by_cases h1 : (0 ≤ j ∧ j < S.rules) ∧ 0 ≤ t ∧ t < S.terms j
  · obtain ⟨hj, ht1⟩ := h1
    have ok := x.wf.rule j hj.1 hj.2
    have ht := ok.terms
    have mm := many_le ok ht1.1 ht1.2
    rw [if_pos (show (0 ≤ j ∧ j < S.rules) ∧ 0 ≤ t ∧ t < S.terms j from ⟨hj, ht1⟩), if_neg (by decide), w32_id (z := 5 * j) (by omega) (by omega), w32_id (z := 5 * j + t) (by omega) (by omega), and_t (by omega)]
    simp only [Int.reduceAdd, vb_p]
    simp only [a.many j t hj.1 (show j < 6 by omega) ht1.1 (show t < 5 by omega), a.kind j t hj.1 hj.2 ht1.1 ht1.2]
    by_cases h2 : S.many j t = 0
    · rw [if_neg (by omega), e_in]
      by_cases h3 : 1 ≤ s ∧ s ≤ 500
      · rw [if_pos h3, if_neg (by decide), e_in]
        by_cases h4 : 2 ≤ n ∧ n ≤ 40
        · have sm := smul_in (s := s) (i := 0) (n := n) h3 (by omega) h4.2
          have hf1 := hf.1
          have hf2 := hf.2
          rw [if_pos h4, if_pos (by decide), w32_id (z := n - 1) (by omega) (by omega), w64_id (z := s * (n - 1)) (by omega) (by omega), w64_id (by omega) (by omega)]
          simp only [a.kind j t hj.1 hj.2 ht1.1 ht1.2]
          have kd := ok.kind t ht1.1 ht1.2
          -- the bounds
          have main : w_X11_range_116 K 33 j t f s n (S.kind j t) (f + s * (n - 1)) (klo (S.kind j t)) (khi (S.kind j t)) h := by
            unfold w_X11_range_116 w_X11_range_133
            by_cases h5 : f < klo (S.kind j t)
            · rw [if_pos h5]; exact no (fun q => by have := q.2.2.2.2.2.1; omega)
            · rw [if_neg h5]
              by_cases h6 : f + s * (n - 1) ≤ khi (S.kind j t)
              · have q : raOk j t f s n S := ⟨hj, ht1, h2, h3, h4, by omega, h6⟩
                rw [if_pos h6]
                rw [if_pos q] at hK
                rcases hR with ⟨q2, _⟩ | ⟨_, sc', scn', e⟩
                · exact absurd q q2
                subst e
                have flo : -999 ≤ f ∧ f + s * (n - 1) ≤ 999 := by
                  have q6 := q.2.2.2.2.2.1
                  have q7 := q.2.2.2.2.2.2
                  unfold klo at q6
                  unfold khi at q7
                  constructor
                  · split at q6
                    · omega
                    · split at q6 <;> omega
                  · split at q7 <;> omega
                have loop : ∀ (k m : Nat) (i : Int) (h1 : Hh), k < m → n - i ≤ k → 0 ≤ i → i ≤ n → (∀ y, y ≠ 43 → h1 y = h y) → (∀ y, y < 40 * (5 * j + t) ∨ 40 * (5 * j + t) + n ≤ y → h1 43 y = h 43 y) → (∀ y, 0 ≤ y → y < i → h1 43 (40 * (5 * j + t) + y) = kval (S.kind j t) (f + s * y)) → w_X11_range_138 K (fun u18 u19 u20 h17 => ((0 : Int) ≤ w32 ((w32 (5 * u18)) + u19) ∧ (w32 ((w32 (5 * u18)) + u19) : Int) < 30) ∧ (hb (up h17 (33 + 9) (w32 ((w32 (5 * u18)) + u19)) u20) fun h22 => K u20 h22)) 33 m j t f s n (S.kind j t) i h1 := by
                  have fin : ∀ (h1 : Hh), (∀ y, y ≠ 43 → h1 y = h y) → (∀ y, y < 40 * (5 * j + t) ∨ 40 * (5 * j + t) + n ≤ y → h1 43 y = h 43 y) → (∀ y, 0 ≤ y → y < n → h1 43 (40 * (5 * j + t) + y) = kval (S.kind j t) (f + s * y)) → ((0 : Int) ≤ w32 ((w32 (5 * j)) + t) ∧ (w32 ((w32 (5 * j)) + t) : Int) < 30) ∧ (hb (up h1 (33 + 9) (w32 ((w32 (5 * j)) + t)) n) fun h22 => K n h22) := by
                    intro h1 k0 l1 l2
                    rw [w32_id (z := 5 * j) (by omega) (by omega), w32_id (z := 5 * j + t) (by omega) (by omega), and_t (by omega)]
                    simp only [hb_p, Int.reduceAdd]
                    have kk : ∀ y, y ≠ 43 → y ≠ 42 → (up h1 42 (5 * j + t) n) y = h y := fun y y1 y2 => by rw [up_ne y2]; exact k0 y y1
                    refine hK _ ?_ (fun y hy => kk y (by omega) (by omega))
                    have mv : ∀ k b, 0 ≤ k → k < S.rules → 0 ≤ b → b < S.terms k → b < 5 := fun k b k1 k2 b1 b2 => by have := (x.wf.rule k k1 k2).terms; omega
                    exact
                      (RepM.mk'
                        (size__ := by rw [kk 33 (by decide) (by decide)]; exact a.size)
                        (txt__ := by rw [kk 34 (by decide) (by decide)]; exact a.txt)
                        (rules__ := by rw [kk 33 (by decide) (by decide)]; exact a.rules)
                        (terms__ := by rw [kk 38 (by decide) (by decide)]; exact a.terms)
                        (const__ := by rw [kk 39 (by decide) (by decide)]; exact a.const)
                        (kind__ := by rw [kk 40 (by decide) (by decide)]; exact a.kind)
                        (sign__ := by rw [kk 41 (by decide) (by decide)]; exact a.sign)
                        (many__ := fun k b k1 k2 b1 b2 => by
                          rw [up_at]
                          show _ = if k = j ∧ b = t then n else S.many k b
                          by_cases e : k = j ∧ b = t
                          · rw [if_pos e, if_pos (by omega)]
                          · rw [if_neg e, if_neg (by omega), k0 42 (by decide)]
                            exact a.many k b k1 k2 b1 b2)
                        (val__ := fun k b m k1 k2 b1 b2 m1 m2 => by
                          have b5 := mv k b k1 k2 b1 b2
                          have k2 : k < S.rules := k2
                          have b2 : b < S.terms k := b2
                          have m2 : m < if k = j ∧ b = t then n else S.many k b := m2
                          rw [up_ne (by decide)]
                          show _ = if k = j ∧ b = t then kval (S.kind j t) (f + s * m) else S.val k b m
                          by_cases e : k = j ∧ b = t
                          · rw [if_pos e] at m2 ⊢
                            rw [e.1, e.2]
                            exact l2 m m1 m2
                          · rw [if_neg e] at m2 ⊢
                            have mm2 := many_le (x.wf.rule k k1 k2) b1 b2
                            rw [l1 _ (by omega)]
                            exact a.val k b m k1 k2 b1 b2 m1 m2)
                        (charts__ := by rw [kk 33 (by decide) (by decide)]; exact a.charts)
                        (crule__ := by rw [kk 44 (by decide) (by decide)]; exact a.crule)
                        (ord__ := by rw [kk 45 (by decide) (by decide)]; exact a.ord)
                        (wide__ := by rw [kk 46 (by decide) (by decide)]; exact a.wide)
                        (left__ := by rw [kk 47 (by decide) (by decide)]; exact a.left)
                        (right__ := by rw [kk 48 (by decide) (by decide)]; exact a.right)
                        (seam__ := by rw [kk 49 (by decide) (by decide)]; exact a.seam)
                        (low__ := by rw [kk 50 (by decide) (by decide)]; exact a.low)
                        (upp__ := by rw [kk 51 (by decide) (by decide)]; exact a.upp)
                        (rdC__ := by rw [kk 33 (by decide) (by decide)]; exact a.rdC)
                        (rdM__ := by rw [kk 52 (by decide) (by decide)]; exact a.rdM)
                        (now__ := by rw [kk 33 (by decide) (by decide)]; exact a.now)
                        (moves__ := by rw [kk 33 (by decide) (by decide)]; exact a.moves)
                        (mC__ := by rw [kk 53 (by decide) (by decide)]; exact a.mC)
                        (mT__ := by rw [kk 54 (by decide) (by decide)]; exact a.mT)
                        (mM__ := by rw [kk 55 (by decide) (by decide)]; exact a.mM)
                        (mN__ := by rw [kk 56 (by decide) (by decide)]; exact a.mN)
                        (mD__ := by rw [kk 57 (by decide) (by decide)]; exact a.mD)
                        (reps__ := by rw [kk 33 (by decide) (by decide)]; exact a.reps)
                        (rB__ := by rw [kk 58 (by decide) (by decide)]; exact a.rB)
                        (rC__ := by rw [kk 59 (by decide) (by decide)]; exact a.rC)
                        (rM__ := by rw [kk 60 (by decide) (by decide)]; exact a.rM)
                        (rS__ := by rw [kk 61 (by decide) (by decide)]; exact a.rS)
                        (rD__ := by rw [kk 62 (by decide) (by decide)]; exact a.rD)
                        (listed__ := by rw [kk 33 (by decide) (by decide)]; exact a.listed)
                        (list__ := by rw [kk 63 (by decide) (by decide)]; exact a.list))
                  intro k
                  induction k with
                  | zero =>
                    intro m i h1 hm hk i0 i1 k0 k1 k2
                    obtain ⟨m, rfl⟩ : ∃ q, m = q + 1 := ⟨m - 1, by omega⟩
                    rw [w_X11_range_138, if_pos (by omega)]
                    exact fin h1 k0 k1 (fun y y1 y2 => k2 y y1 (by omega))
                  | succ k ih =>
                    intro m i h1 hm hk i0 i1 k0 k1 k2
                    obtain ⟨m, rfl⟩ : ∃ q, m = q + 1 := ⟨m - 1, by omega⟩
                    rw [w_X11_range_138]
                    by_cases e1 : i ≥ n
                    · rw [if_pos e1]
                      exact fin h1 k0 k1 (fun y y1 y2 => k2 y y1 (by omega))
                    · have sm2 := smul_in h3 (i := i) (n := n) (by omega) h4.2
                      have cm : i * s = s * i := Int.mul_comm i s
                      have kb := kval_bd (k := S.kind j t) (x := f + s * i) (by omega) (by omega)
                      rw [if_neg e1]
                      simp only [vb_p, Int.reduceAdd]
                      rw [cm, w32_id (z := s * i) (by omega) (by omega), w32_id (z := f + s * i) (by omega) (by omega), w32_id (z := 5 * j) (by omega) (by omega), w32_id (z := 5 * j + t) (by omega) (by omega), w32_id (z := 40 * (5 * j + t)) (by omega) (by omega), w32_id (z := 40 * (5 * j + t) + i) (by omega) (by omega)]
                      have nx : ∀ z, z = kval (S.kind j t) (f + s * i) → w_X11_range_203 K (w_X11_range_138 K (fun u18 u19 u20 h17 => ((0 : Int) ≤ w32 ((w32 (5 * u18)) + u19) ∧ (w32 ((w32 (5 * u18)) + u19) : Int) < 30) ∧ (hb (up h17 (33 + 9) (w32 ((w32 (5 * u18)) + u19)) u20) fun h22 => K u20 h22)) 33 m) (fun u18 u19 u20 h17 => ((0 : Int) ≤ w32 ((w32 (5 * u18)) + u19) ∧ (w32 ((w32 (5 * u18)) + u19) : Int) < 30) ∧ (hb (up h17 (33 + 9) (w32 ((w32 (5 * u18)) + u19)) u20) fun h22 => K u20 h22)) 33 j t f s n (S.kind j t) i z (40 * (5 * j + t) + i) 43 1200 h1 := by
                        intro z hz
                        unfold w_X11_range_203
                        rw [and_t (by omega), and_t (by omega), hb_p, vb_p, w32_id (by omega) (by omega)]
                        refine ih m (i + 1) _ (by omega) (by omega) (by omega) (by omega) (fun y hy => by rw [up_ne hy]; exact k0 y hy) (fun y hy => by rw [up_at, if_neg (by omega)]; exact k1 y hy) (fun y y1 y2 => ?_)
                        rw [up_at]
                        by_cases e : y = i
                        · rw [if_pos (by omega), e]; exact hz
                        · rw [if_neg (by omega)]; exact k2 y y1 (by omega)
                      have q6 := q.2.2.2.2.2.1
                      have q7 := q.2.2.2.2.2.2
                      unfold klo at q6
                      unfold khi at q7
                      unfold kval at kb nx
                      by_cases e0 : S.kind j t = 0
                      · rw [if_neg (fun w => w e0)]
                        rw [if_neg (by omega), if_neg (by omega)] at nx
                        exact nx _ rfl
                      · rw [if_pos e0]
                        by_cases e1 : S.kind j t = 1
                        · rw [if_neg (fun w => w e1)]
                          rw [if_pos e1] at nx kb
                          exact nx _ (w32_id (by omega) (by omega))
                        · rw [if_pos e1]
                          rw [if_neg e1, if_pos (by omega)] at nx kb
                          rw [if_neg e1, if_pos (by omega)] at q6
                          rw [e_nearM (by omega) (by omega) (by omega)]
                          exact nx _ (show w32 (nst 10000 (f + s * i)) = nst 10000 (f + s * i) from w32_id (by omega) (by omega))
                exact loop 41 NF 0 h (by decide) (by omega) (by omega) (by omega) (fun _ _ => rfl) (fun _ _ => rfl) (fun y y1 y2 => by omega)
              · rw [if_neg h6]; exact no (fun q => h6 q.2.2.2.2.2.2)
          unfold w_X11_range_100
          unfold klo khi at main
          by_cases e0 : S.kind j t = 0
          · rw [if_neg (fun w => w e0), if_pos (by omega)]
            rw [if_neg (by omega), if_neg (by omega), if_neg (by omega)] at main
            exact main
          · rw [if_pos e0]
            by_cases e1 : S.kind j t = 1
            · rw [if_neg (fun w => w e1), if_neg (fun w => w e1)]
              rw [if_pos e1, if_pos e1] at main
              exact main
            · rw [if_pos e1, if_pos e1]
              rw [if_neg e1, if_pos (by omega), if_neg e1] at main
              exact main
        · rw [if_neg h4, if_neg (by decide)]; exact no (fun q => h4 q.2.2.2.2.1)
      · rw [if_neg h3, if_pos rfl]; exact no (fun q => h3 q.2.2.2.1)
    · rw [if_pos (by omega)]; exact no (fun q => h2 q.2.2.1)
  · rw [if_neg h1, if_pos rfl]; exact no (fun q => h1 ⟨q.1, q.2.1⟩)
theorem a_range (j t f s n : Int) (hf : r32 f) : Agree (w_X10_range 0 j t f s n) (w_X11_range 33 j t f s n) := agree_r (fun S => if raOk j t f s n S then n else -1) (raR j t f s n) (range_C j t f s n hf) (range_M j t f s n hf)
