/-! PURE 58: rule: the reference's; both -/
theorem eqM.kc {h h' : Hh} (e : eqM h h') : keepC h h' := fun a ha => funext fun k => e a k (by unfold scM; omega)
theorem rule_M (h : Hh) (S S' : St) (x : Mx h S) (hR : rlR S S') (K : Int → Hh → Prop) (hK : ∀ h', RepM h' S' → keepC h h' → K (rRule S) h') : w_X11_rule 33 h K := by
  have rb := x.wf.rules
  unfold w_X11_rule w_X11_rule_17
  rw [x.rep.rules]
  rcases hR with ⟨eS, no⟩ | ⟨σ, q, er, pi, h8, eS⟩
  · subst eS
    by_cases r6 : S'.rules = 6
    · rw [if_pos r6]
      have := hK h x.rep (fun _ _ => rfl)
      unfold rRule at this
      rw [if_pos r6] at this
      exact this
    · rw [if_neg r6]
      obtain ⟨r, r0, er⟩ := no.resolve_left r6
      refine r_reads x (fun r' h2 e er' => ?_) (fun σ' h2 e er' _ => ?_)
      · have rr : r' = r := by
          rw [er] at er'
          exact (Sum.inl.inj er').symm
        rw [if_neg (by omega)]
        have := hK h2 (x.rep.keep e.sm) e.kc
        unfold rRule at this
        rw [if_neg r6, er] at this
        exact this
      · rw [er] at er'
        exact absurd er' (by simp)
  · subst eS
    have tm := pi.tm
    have t3 := pi.s8 h8
    rw [if_neg (by omega)]
    refine r_reads x (fun r' h2 e er' => ?_) (fun σ' h2 e er' pm => ?_)
    · rw [er] at er'
      exact absurd er' (by simp)
    · have es : σ' = σ := by
        rw [er] at er'
        exact (Sum.inr.inj er').symm
      subst es
      have y := x.keep e
      rw [if_pos rfl, y.rep.rules, and_t (by omega), hb_p]
      simp only [Int.reduceAdd]
      rw [pm.tm, up_ne (show (33 : Int) ≠ 38 by decide), y.rep.rules, and_t (by omega), hb_p, pm.cn]
      -- the loop over the terms
      have e11 : h2 33 11 = S.rules := y.rep.rules
      have loop : ∀ (k n : Nat) (z : Int) (h5 : Hh), k < n → σ'.tm - z = k → 0 ≤ z → (∀ a, a ≠ 40 → a ≠ 41 → h5 a = (up (up h2 38 S.rules σ'.tm) 39 S.rules σ'.cn) a) → (∀ j, h5 40 j = if 5 * S.rules ≤ j ∧ j < 5 * S.rules + z then σ'.kd (j - 5 * S.rules) else h2 40 j) → (∀ j, h5 41 j = if 5 * S.rules ≤ j ∧ j < 5 * S.rules + z then σ'.sn (j - 5 * S.rules) else h2 41 j) → w_X11_rule_47 K (fun h13 => hb (up h13 33 1 0) fun h14 => hb (up h14 33 11 (w32 ((h14 33 11) + 1))) fun h15 => K (w32 ((h15 33 11) - 1)) h15) 33 n z h5 := by
        intro k
        induction k with
        | zero =>
          intro n z h5 hn hk z0 k0 k40 k41
          obtain ⟨n, rfl⟩ : ∃ m, n = m + 1 := ⟨n - 1, by omega⟩
          have s6 : h5 33 6 = σ'.tm := by rw [k0 33 (by decide) (by decide), up_ne (by decide), up_ne (by decide)]; exact pm.tm
          have s11 : h5 33 11 = S.rules := by rw [k0 33 (by decide) (by decide), up_ne (by decide), up_ne (by decide)]; exact e11
          rw [w_X11_rule_47, s6, if_pos (by omega), hb_p, hb_p]
          have v11 : (up h5 33 1 0) 33 11 = S.rules := by rw [up_at, if_neg (by decide)]; exact s11
          rw [v11, w32_id (z := S.rules + 1) (by omega) (by omega), up_at, if_pos rfl, show S.rules + 1 - 1 = S.rules by omega, w32_id (by omega) (by omega)]
          have z5 : z = σ'.tm := by omega
          rw [z5] at k40 k41
          have g0 : ∀ a, a ≠ 33 → a ≠ 38 → a ≠ 39 → a ≠ 40 → a ≠ 41 → (up (up h5 33 1 0) 33 11 (S.rules + 1)) a = h2 a := fun a a1 a2 a3 a4 a5 => by rw [up_ne a1, up_ne a1, k0 a a4 a5, up_ne a3, up_ne a2]
          have g33 : ∀ j, j ≠ 1 → j ≠ 11 → (up (up h5 33 1 0) 33 11 (S.rules + 1)) 33 j = h2 33 j := fun j j1 j2 => by rw [up_at, if_neg j2, up_at, if_neg j1, k0 33 (by decide) (by decide), up_ne (by decide), up_ne (by decide)]
          have g1 : (up (up h5 33 1 0) 33 11 (S.rules + 1)) 33 1 = 0 := by rw [up_at, if_neg (by decide), up_at, if_pos rfl]
          have g11 : (up (up h5 33 1 0) 33 11 (S.rules + 1)) 33 11 = S.rules + 1 := by rw [up_at, if_pos rfl]
          have g38 : ∀ j, (up (up h5 33 1 0) 33 11 (S.rules + 1)) 38 j = if j = S.rules then σ'.tm else h2 38 j := fun j => by rw [up_ne (by decide), up_ne (by decide), k0 38 (by decide) (by decide), up_ne (by decide), up_at]
          have g39 : ∀ j, (up (up h5 33 1 0) 33 11 (S.rules + 1)) 39 j = if j = S.rules then σ'.cn else h2 39 j := fun j => by rw [up_ne (by decide), up_ne (by decide), k0 39 (by decide) (by decide), up_at, up_ne (by decide)]
          have g40 : ∀ j, (up (up h5 33 1 0) 33 11 (S.rules + 1)) 40 j = if 5 * S.rules ≤ j ∧ j < 5 * S.rules + σ'.tm then σ'.kd (j - 5 * S.rules) else h2 40 j := fun j => by rw [up_ne (by decide), up_ne (by decide)]; exact k40 j
          have g41 : ∀ j, (up (up h5 33 1 0) 33 11 (S.rules + 1)) 41 j = if 5 * S.rules ≤ j ∧ j < 5 * S.rules + σ'.tm then σ'.sn (j - 5 * S.rules) else h2 41 j := fun j => by rw [up_ne (by decide), up_ne (by decide)]; exact k41 j
          generalize up (up h5 33 1 0) 33 11 (S.rules + 1) = h6 at *
          have kc : keepC h h6 := fun a ha => by rw [g0 a (by omega) (by omega) (by omega) (by omega) (by omega)]; exact e.kc a ha
          have fin : RepM h6 (St.rl σ' S) := by
            have a := y.rep
            have w := x.wf
            have lt5 : ∀ j, 0 ≤ j → j < S.rules → S.terms j ≤ 5 := fun j j1 j2 => (w.rule j j1 j2).terms.2
            refine RepM.mk' ?_ ?_ ?_ ?_ ?_ ?_ ?_ ?_ ?_ ?_ ?_ ?_ ?_ ?_ ?_ ?_ ?_ ?_ ?_ ?_ ?_ ?_ ?_ ?_ ?_ ?_ ?_ ?_ ?_ ?_ ?_ ?_ ?_ ?_ ?_
            · exact g1
            · intro i i0 i1
              have i2 : i < 0 := i1
              omega
            · exact g11
            · intro j j1 j2
              have j2' : j < S.rules + 1 := j2
              rw [g38]
              by_cases ej : j = S.rules
              · rw [if_pos ej, ej, rl_terms]
              · rw [if_neg ej, (rl_ru ej).terms]; exact a.terms j j1 (by omega)
            · intro j j1 j2
              have j2' : j < S.rules + 1 := j2
              rw [g39]
              by_cases ej : j = S.rules
              · rw [if_pos ej, ej, rl_const]
              · rw [if_neg ej, (rl_ru ej).const]; exact a.const j j1 (by omega)
            · intro j t j1 j2 t1 t2
              have j2' : j < S.rules + 1 := j2
              rw [g40]
              by_cases ej : j = S.rules
              · rw [ej, rl_terms] at t2
                rw [if_pos (by omega), ej, rl_kind, show 5 * S.rules + t - 5 * S.rules = t by omega]
              · rw [(rl_ru ej).terms] at t2
                have := lt5 j j1 (by omega)
                rw [if_neg (by omega), (rl_ru ej).kind]; exact a.kind j t j1 (by omega) t1 t2
            · intro j t j1 j2 t1 t2
              have j2' : j < S.rules + 1 := j2
              rw [g41]
              by_cases ej : j = S.rules
              · rw [ej, rl_terms] at t2
                rw [if_pos (by omega), ej, rl_sign, show 5 * S.rules + t - 5 * S.rules = t by omega]
              · rw [(rl_ru ej).terms] at t2
                have := lt5 j j1 (by omega)
                rw [if_neg (by omega), (rl_ru ej).sign]; exact a.sign j t j1 (by omega) t1 t2
            · rw [g0 42 (by decide) (by decide) (by decide) (by decide) (by decide)]; exact a.many
            · intro j t m j1 j2 t1 t2 m1 m2
              have j2' : j < S.rules + 1 := j2
              by_cases ej : j = S.rules
              · rw [ej, rl_many w] at m2
                omega
              · rw [(rl_ru ej).terms] at t2
                rw [g0 43 (by decide) (by decide) (by decide) (by decide) (by decide)]
                exact a.val j t m j1 (by omega) t1 t2 m1 m2
            · rw [g33 18 (by decide) (by decide)]; exact a.charts
            · rw [g0 44 (by decide) (by decide) (by decide) (by decide) (by decide)]; exact a.crule
            · intro c k c1 c2 d1 d2
              have ok := w.chart c c1 c2
              have er2 := (rl_ru (S := S) (σ := σ') (j := S.crule c) (by have := ok.rule; omega)).terms
              have d2' : k < (St.rl σ' S).terms (S.crule c) - 1 := d2
              rw [er2] at d2'
              rw [g0 45 (by decide) (by decide) (by decide) (by decide) (by decide)]; exact a.ord c k c1 c2 d1 d2'
            · rw [g0 46 (by decide) (by decide) (by decide) (by decide) (by decide)]; exact a.wide
            · intro c p c1 c2 d1 d2
              have ok := w.chart c c1 c2
              have er2 := (rl_ru (S := S) (σ := σ') (j := S.crule c) (by have := ok.rule; omega)).terms
              have d2' : p < (St.rl σ' S).terms (S.crule c) - 2 := d2
              rw [er2] at d2'
              rw [g0 47 (by decide) (by decide) (by decide) (by decide) (by decide)]; exact a.left c p c1 c2 d1 d2'
            · intro c p c1 c2 d1 d2
              have ok := w.chart c c1 c2
              have er2 := (rl_ru (S := S) (σ := σ') (j := S.crule c) (by have := ok.rule; omega)).terms
              have d2' : p < (St.rl σ' S).terms (S.crule c) - 2 := d2
              rw [er2] at d2'
              rw [g0 48 (by decide) (by decide) (by decide) (by decide) (by decide)]; exact a.right c p c1 c2 d1 d2'
            · rw [g0 49 (by decide) (by decide) (by decide) (by decide) (by decide)]; exact a.seam
            · rw [g0 50 (by decide) (by decide) (by decide) (by decide) (by decide)]; exact a.low
            · rw [g0 51 (by decide) (by decide) (by decide) (by decide) (by decide)]; exact a.upp
            · rw [g33 27 (by decide) (by decide)]; exact a.rdC
            · intro nr k k1 k2
              have nr' : S.rdC ≠ -1 := nr
              have r := w.rd.resolve_left nr'
              have ok := w.chart _ r.chart.1 r.chart.2
              have er2 := (rl_ru (S := S) (σ := σ') (j := S.crule S.rdC) (by have := ok.rule; omega)).terms
              have k2' : k < (St.rl σ' S).terms (S.crule S.rdC) - 1 := k2
              show h6 52 k = dg S.rdM ((St.rl σ' S).terms (S.crule S.rdC) - 2 - k)
              rw [er2] at k2' ⊢
              rw [g0 52 (by decide) (by decide) (by decide) (by decide) (by decide)]; exact a.rdM nr' k k1 k2'
            · rw [g33 29 (by decide) (by decide)]; exact a.now
            · rw [g33 30 (by decide) (by decide)]; exact a.moves
            · rw [g0 53 (by decide) (by decide) (by decide) (by decide) (by decide)]; exact a.mC
            · rw [g0 54 (by decide) (by decide) (by decide) (by decide) (by decide)]; exact a.mT
            · rw [g0 55 (by decide) (by decide) (by decide) (by decide) (by decide)]; exact a.mM
            · rw [g0 56 (by decide) (by decide) (by decide) (by decide) (by decide)]; exact a.mN
            · rw [g0 57 (by decide) (by decide) (by decide) (by decide) (by decide)]; exact a.mD
            · rw [g33 36 (by decide) (by decide)]; exact a.reps
            · rw [g0 58 (by decide) (by decide) (by decide) (by decide) (by decide)]; exact a.rB
            · rw [g0 59 (by decide) (by decide) (by decide) (by decide) (by decide)]; exact a.rC
            · intro i k i1 i2 k1 k2
              have r := w.rep i i1 i2
              have ok := w.chart _ r.chart.1 r.chart.2
              have er2 := (rl_ru (S := S) (σ := σ') (j := S.crule (S.rC i)) (by have := ok.rule; omega)).terms
              have k2' : k < (St.rl σ' S).terms (S.crule (S.rC i)) - 1 := k2
              show h6 60 (4 * i + k) = dg (S.rM i) ((St.rl σ' S).terms (S.crule (S.rC i)) - 2 - k)
              rw [er2] at k2' ⊢
              rw [g0 60 (by decide) (by decide) (by decide) (by decide) (by decide)]; exact a.rM i k i1 i2 k1 k2'
            · rw [g0 61 (by decide) (by decide) (by decide) (by decide) (by decide)]; exact a.rS
            · rw [g0 62 (by decide) (by decide) (by decide) (by decide) (by decide)]; exact a.rD
            · rw [g33 42 (by decide) (by decide)]; exact a.listed
            · rw [g0 63 (by decide) (by decide) (by decide) (by decide) (by decide)]; exact a.list
          have := hK h6 fin kc
          unfold rRule at this
          rw [if_neg (by omega), er] at this
          exact this
        | succ k ih =>
          intro n z h5 hn hk z0 k0 k40 k41
          obtain ⟨n, rfl⟩ : ∃ m, n = m + 1 := ⟨n - 1, by omega⟩
          have s6 : h5 33 6 = σ'.tm := by rw [k0 33 (by decide) (by decide), up_ne (by decide), up_ne (by decide)]; exact pm.tm
          have s11 : h5 33 11 = S.rules := by rw [k0 33 (by decide) (by decide), up_ne (by decide), up_ne (by decide)]; exact e11
          have s36 : h5 36 z = σ'.kd z := by rw [k0 36 (by decide) (by decide), up_ne (by decide), up_ne (by decide)]; exact pm.kd z z0 (by omega)
          have s37 : h5 37 z = σ'.sn z := by rw [k0 37 (by decide) (by decide), up_ne (by decide), up_ne (by decide)]; exact pm.sn z z0 (by omega)
          rw [w_X11_rule_47, s6, if_neg (by omega), and_t (by omega), s11, w32_id (z := 5 * S.rules) (by omega) (by omega), w32_id (z := 5 * S.rules + z) (by omega) (by omega), and_t (by omega), hb_p]
          simp only [Int.reduceAdd]
          rw [s36, up_ne (show (33 : Int) ≠ 40 by decide), up_ne (show (37 : Int) ≠ 40 by decide), s11, s37, w32_id (z := 5 * S.rules) (by omega) (by omega), w32_id (z := 5 * S.rules + z) (by omega) (by omega), and_t (by omega), hb_p, vb_p, w32_id (by omega) (by omega)]
          refine ih n (z + 1) _ (by omega) (by omega) (by omega) (fun a a1 a2 => by rw [up_ne a2, up_ne a1]; exact k0 a a1 a2) (fun j => ?_) (fun j => ?_)
          · rw [up_ne (by decide), up_at]
            by_cases ej : j = 5 * S.rules + z
            · rw [if_pos ej, if_pos (by omega), show j - 5 * S.rules = z by omega]
            · rw [if_neg ej, k40]
              by_cases c : 5 * S.rules ≤ j ∧ j < 5 * S.rules + z
              · rw [if_pos c, if_pos (by omega)]
              · rw [if_neg c, if_neg (by omega)]
          · rw [up_at]
            by_cases ej : j = 5 * S.rules + z
            · rw [if_pos ej, if_pos (by omega), show j - 5 * S.rules = z by omega]
            · rw [if_neg ej, up_ne (by decide), k41]
              by_cases c : 5 * S.rules ≤ j ∧ j < 5 * S.rules + z
              · rw [if_pos c, if_pos (by omega)]
              · rw [if_neg c, if_neg (by omega)]
      have e10 : (up h2 38 S.rules σ'.tm) 33 10 = σ'.cn := by rw [up_ne (by decide)]; exact pm.cn
      refine loop σ'.tm.toNat NF 0 _ (by rw [NF_eq]; omega) (by omega) (by omega) (fun _ _ _ => rfl) (fun j => ?_) (fun j => ?_)
      · rw [up_ne (by decide), up_ne (by decide), if_neg (by omega)]
      · rw [up_ne (by decide), up_ne (by decide), if_neg (by omega)]
theorem a_rule : Agree (w_X10_rule 0) (w_X11_rule 33) := agree_r rRule rlR rule_C rule_M
