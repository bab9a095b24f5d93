/-! PURE 33: chart, the reference's loops -/
theorem chart_M (j o wd m0 m1 m2 : Int) (ro : r32 o) (r0 : r32 m0) (r1 : r32 m1) (r2 : r32 m2) (h : Hh) (S S' : St) (x : Mx h S) (hR : chR j o wd m0 m1 m2 S S') (K : Int → Hh → Prop) (hK : ∀ h', RepM h' S' → keepC h h' → K (rChart j o wd m0 m1 m2 S) h') : w_X11_chart 33 j o wd m0 m1 m2 h K := by
  have no : ∀ h', Scb h h' S → ¬ chOk j o wd m0 m1 m2 S → K (-1) h' := fun h' s q => by
    rcases hR with ⟨_, e⟩ | ⟨q2, _⟩
    · subst e
      have g := hK h' (s.rep x) s.keep
      unfold rChart at g
      rw [if_neg q] at g
      exact g
    · exact absurd q2 q
  have s0 : Scb h h S := ⟨fun _ _ _ _ => rfl, fun _ _ => rfl, fun _ _ => rfl, fun _ _ => rfl⟩
  have cb := x.wf.charts
  have rb := x.wf.rules
  unfold w_X11_chart w_X11_chart_43 w_X11_chart_110 w_X11_chart_241
  rw [x.rep.rules, w32_id (by omega) (by omega), e_in]
  by_cases hj : 0 ≤ j ∧ j < S.rules
  · have rok := x.wf.rule j hj.1 hj.2
    have ht := rok.terms
    rw [if_pos (show 0 ≤ j ∧ j ≤ S.rules - 1 by omega), if_neg (by decide)]
    by_cases h1 : o < 0
    · rw [if_pos h1]; exact no h s0 (fun q => by have := q.2.2.2.2.1.1; omega)
    · rw [if_neg h1, e_in]
      by_cases h2 : 10 ≤ wd ∧ wd ≤ 1000
      · rw [if_pos h2, if_neg (by decide), x.rep.charts]
        by_cases h3 : S.charts = 6
        · rw [if_neg (fun w => w h3)]; exact no h s0 (fun q => by have := q.2.1; omega)
        · rw [if_pos h3, and_t (by omega)]
          simp only [vb_p, hb_p, Int.reduceAdd]
          rw [x.rep.terms j hj.1 hj.2, w32_id (z := S.terms j - 1) (by omega) (by omega), w32_id (z := S.terms j - 1 - 1) (by omega) (by omega)]
          -- the moduli
          have mods : ordB (S.terms j) (S.terms j - 1).toNat o 0 = true → (∀ t, 0 ≤ t → t < S.terms j → S.many j t ≠ 0) → ∀ (k n : Nat) (p : Int) (h1 : Hh), k < n → 3 - p = k → 0 ≤ p → Scb h h1 S → (∀ i, 0 ≤ i → i < S.terms j - 1 → h1 45 (4 * S.charts + i) = dt o (S.terms j - 2 - i)) → (∀ i, 0 ≤ i → i < p → (h1 47 (3 * S.charts + i) = Int.tdiv (mp m0 m1 m2 i) 100 ∧ h1 48 (3 * S.charts + i) = Int.tmod (mp m0 m1 m2 i) 100) ∧ ((i < S.terms j - 2 ∧ modOk (mp m0 m1 m2 i)) ∨ (S.terms j - 2 ≤ i ∧ mp m0 m1 m2 i = 0))) → w_X11_chart_185 K (fun h41 => K (-1) h41) (fun h42 => K (-1) h42) (fun u44 u45 h43 => (0 ≤ h43 33 18 ∧ h43 33 18 < 6) ∧ (0 ≤ up h43 44 (h43 33 18) u44 33 18 ∧ up h43 44 (h43 33 18) u44 33 18 < 6) ∧ K (w32 (up (up (up h43 44 (h43 33 18) u44) 46 (up h43 44 (h43 33 18) u44 33 18) u45) 33 18 (w32 (up (up h43 44 (h43 33 18) u44) 46 (up h43 44 (h43 33 18) u44 33 18) u45 33 18 + 1)) 33 18 - 1)) (up (up (up h43 44 (h43 33 18) u44) 46 (up h43 44 (h43 33 18) u44 33 18) u45) 33 18 (w32 (up (up h43 44 (h43 33 18) u44) 46 (up h43 44 (h43 33 18) u44 33 18) u45 33 18 + 1)))) 33 n j wd m0 m1 m2 (S.terms j - 1) p h1 := by
            intro hB hm k
            induction k with
            | zero =>
              intro n p h1 hn hk p0 s so sl
              obtain ⟨n, rfl⟩ : ∃ m, n = m + 1 := ⟨n - 1, by omega⟩
              have ep : p = 3 := by omega
              subst ep
              have q : chOk j o wd m0 m1 m2 S := ⟨hj, by omega, h2, hm, ⟨by omega, hB⟩, fun p p1 p2 => (sl p p1 p2).2⟩
              rw [w_X11_chart_185, if_pos (by omega)]
              simp only [up_ne (show (33 : Int) ≠ 44 by decide), up_ne (show (33 : Int) ≠ 46 by decide), s.1 33 (by decide) (by decide) (by decide), x.rep.charts]
              rw [and_t (by omega), and_t (by omega), w32_id (z := S.charts + 1) (by omega) (by omega), up_at, if_pos rfl, show S.charts + 1 - 1 = S.charts by omega, w32_id (by omega) (by omega)]
              rcases hR with ⟨q2, _⟩ | ⟨_, e⟩
              · exact absurd q q2
              · subst e
                have g := hK _ (ch_repM x q s so (fun p p1 p2 => (sl p p1 p2).1)) (fun y hy => by rw [up_ne (by omega), up_ne (by omega), up_ne (by omega)]; exact s.keep y hy)
                unfold rChart at g
                rw [if_pos q] at g
                exact g
            | succ k ih =>
              intro n p h1 hn hk p0 s so sl
              obtain ⟨n, rfl⟩ : ∃ m, n = m + 1 := ⟨n - 1, by omega⟩
              have e18 : h1 33 18 = S.charts := by rw [s.1 33 (by decide) (by decide) (by decide)]; exact x.rep.charts
              rw [w_X11_chart_185, if_neg (by omega)]
              -- laid down, and on
              have nx : ∀ m, m = mp m0 m1 m2 p → r32 m → ((p < S.terms j - 2 ∧ modOk m) ∨ (S.terms j - 2 ≤ p ∧ m = 0)) → ∀ (X1 X2 : Hh → Prop) (X3 : Int → Int → Hh → Prop), w_X11_chart_243 K (w_X11_chart_185 K (fun h41 => K (-1) h41) (fun h42 => K (-1) h42) (fun u44 u45 h43 => (0 ≤ h43 33 18 ∧ h43 33 18 < 6) ∧ (0 ≤ up h43 44 (h43 33 18) u44 33 18 ∧ up h43 44 (h43 33 18) u44 33 18 < 6) ∧ K (w32 (up (up (up h43 44 (h43 33 18) u44) 46 (up h43 44 (h43 33 18) u44 33 18) u45) 33 18 (w32 (up (up h43 44 (h43 33 18) u44) 46 (up h43 44 (h43 33 18) u44 33 18) u45 33 18 + 1)) 33 18 - 1)) (up (up (up h43 44 (h43 33 18) u44) 46 (up h43 44 (h43 33 18) u44 33 18) u45) 33 18 (w32 (up (up h43 44 (h43 33 18) u44) 46 (up h43 44 (h43 33 18) u44 33 18) u45 33 18 + 1)))) 33 n) X1 X2 X3 33 j wd m0 m1 m2 (S.terms j - 1) p m h1 := by
                intro m em rm hcond X1 X2 X3
                have rm1 := rm.1
                have rm2 := rm.2
                have mn : 0 ≤ m := by
                  rcases hcond with w | w
                  · exact w.2.1
                  · omega
                have tb : -2147483648 ≤ Int.tdiv m 100 ∧ Int.tdiv m 100 < 2147483648 := by rw [td_pos mn (by omega)]; omega
                unfold w_X11_chart_243
                rw [e18, w32_id (z := 3 * S.charts) (by omega) (by omega), w32_id (z := 3 * S.charts + p) (by omega) (by omega), and_t (by omega)]
                simp only [vb_p, hb_p, Int.reduceAdd]
                rw [up_ne (show (33 : Int) ≠ 47 by decide), e18, w32_id (z := 3 * S.charts) (by omega) (by omega), w32_id (z := 3 * S.charts + p) (by omega) (by omega), and_t (by omega), w32_id tb.1 tb.2, w32_id (z := p + 1) (by omega) (by omega)]
                refine ih n (p + 1) _ (by omega) (by omega) (by omega) ⟨fun y y1 y2 y3 => by rw [up_ne y3, up_ne y2]; exact s.1 y y1 y2 y3, fun y hy => by rw [up_ne (by decide), up_ne (by decide)]; exact s.2.1 y hy, fun y hy => by rw [up_ne (by decide), up_at, if_neg (by omega)]; exact s.2.2.1 y hy, fun y hy => by rw [up_at, if_neg (by omega), up_ne (by decide)]; exact s.2.2.2 y hy⟩ (fun i i1 i2 => by rw [up_ne (by decide), up_ne (by decide)]; exact so i i1 i2) (fun i i1 i2 => ?_)
                rw [up_ne (show (47 : Int) ≠ 48 by decide), up_at, up_at, up_ne (show (48 : Int) ≠ 47 by decide)]
                by_cases e : i = p
                · subst e
                  rw [if_pos rfl, if_pos rfl, ← em]
                  exact ⟨⟨rfl, rfl⟩, hcond⟩
                · rw [if_neg (by omega), if_neg (by omega)]
                  exact sl i i1 (by omega)
              have try1 : ∀ m, m = mp m0 m1 m2 p → r32 m → ∀ (X3 : Int → Int → Hh → Prop), w_X11_chart_214 K (w_X11_chart_185 K (fun h41 => K (-1) h41) (fun h42 => K (-1) h42) (fun u44 u45 h43 => (0 ≤ h43 33 18 ∧ h43 33 18 < 6) ∧ (0 ≤ up h43 44 (h43 33 18) u44 33 18 ∧ up h43 44 (h43 33 18) u44 33 18 < 6) ∧ K (w32 (up (up (up h43 44 (h43 33 18) u44) 46 (up h43 44 (h43 33 18) u44 33 18) u45) 33 18 (w32 (up (up h43 44 (h43 33 18) u44) 46 (up h43 44 (h43 33 18) u44 33 18) u45 33 18 + 1)) 33 18 - 1)) (up (up (up h43 44 (h43 33 18) u44) 46 (up h43 44 (h43 33 18) u44 33 18) u45) 33 18 (w32 (up (up h43 44 (h43 33 18) u44) 46 (up h43 44 (h43 33 18) u44 33 18) u45 33 18 + 1)))) 33 n) (fun h41 => K (-1) h41) (fun h42 => K (-1) h42) X3 33 j wd m0 m1 m2 (S.terms j - 1) p m h1 := by
                intro m em rm X3
                unfold w_X11_chart_214
                rw [w32_id (z := S.terms j - 1 - 1) (by omega) (by omega)]
                by_cases e1 : p ≥ S.terms j - 1 - 1
                · rw [if_pos e1]
                  by_cases e2 : m = 0
                  · rw [if_pos e2]; exact nx m em rm (Or.inr ⟨by omega, e2⟩) _ _ _
                  · rw [if_neg e2]
                    refine no h1 s (fun q => e2 ?_)
                    rcases q.2.2.2.2.2 p p0 (by omega) with w | w
                    · have := w.1; omega
                    · rw [em]; exact w.2
                · rw [if_neg e1, e_isMod rm]
                  by_cases e2 : modOk m
                  · rw [if_pos e2, if_pos (by decide)]; exact nx m em rm (Or.inl ⟨by omega, e2⟩) _ _ _
                  · rw [if_neg e2, if_neg (by decide)]
                    refine no h1 s (fun q => e2 ?_)
                    rcases q.2.2.2.2.2 p p0 (by omega) with w | w
                    · rw [em]; exact w.2
                    · have := w.1; omega
              by_cases e0 : p = 0
              · rw [if_neg (fun w => w e0)]
                exact try1 m0 (by rw [e0]; rfl) r0 _
              · rw [if_pos e0]
                by_cases e1 : p = 1
                · rw [if_neg (fun w => w e1)]
                  exact try1 m1 (by rw [e1]; rfl) r1 _
                · rw [if_pos e1]
                  have e2 : p = 2 := by omega
                  exact try1 m2 (by rw [e2]; rfl) r2 _
          -- the ranges
          have rngs : ordB (S.terms j) (S.terms j - 1).toNat o 0 = true → ∀ (X : Int → Int → Int → Int → Int → Int → Hh → Prop) (h1 : Hh), Scb h h1 S → ((∀ t, 0 ≤ t → t < S.terms j → S.many j t ≠ 0) → X j wd m0 m1 m2 (S.terms j - 1) h1) → ∀ (k n : Nat) (t : Int), k < n → S.terms j - t = k → 0 ≤ t → (∀ i, 0 ≤ i → i < t → S.many j i ≠ 0) → w_X11_chart_153 K X 33 n j wd m0 m1 m2 (S.terms j - 1) t h1 := by
            intro hB X h1 s hX k
            induction k with
            | zero =>
              intro n t hn hk t0 hm
              obtain ⟨n, rfl⟩ : ∃ m, n = m + 1 := ⟨n - 1, by omega⟩
              rw [w_X11_chart_153, if_pos (by omega)]
              exact hX (fun i i1 i2 => hm i i1 (by omega))
            | succ k ih =>
              intro n t hn hk t0 hm
              obtain ⟨n, rfl⟩ : ∃ m, n = m + 1 := ⟨n - 1, by omega⟩
              rw [w_X11_chart_153, if_neg (by omega), w32_id (z := 5 * j) (by omega) (by omega), w32_id (z := 5 * j + t) (by omega) (by omega), and_t (by omega)]
              simp only [vb_p, Int.reduceAdd, s.1 42 (by decide) (by decide) (by decide), x.rep.many j t hj.1 (show j < 6 by omega) t0 (show t < 5 by omega)]
              by_cases e : S.many j t = 0
              · rw [if_neg (fun w => w e)]
                exact no h1 s (fun q => q.2.2.2.1 t t0 (by omega) e)
              · rw [if_pos e, w32_id (by omega) (by omega)]
                refine ih n (t + 1) (by omega) (by omega) (by omega) (fun i i1 i2 => ?_)
                by_cases e2 : i = t
                · rw [e2]; exact e
                · exact hm i i1 (by omega)
          -- the order
          have ords : ∀ (X110 : Hh → Prop) (X : Int → Int → Int → Int → Int → Int → Int → Hh → Prop), (∀ h1, Scb h h1 S → ¬ chOk j o wd m0 m1 m2 S → X110 h1) → (∀ h1 r, Scb h h1 S → 0 ≤ r → (r = 0 → ordB (S.terms j) (S.terms j - 1).toNat o 0 = true) → (r ≠ 0 → ¬ chOk j o wd m0 m1 m2 S) → (r = 0 → ∀ i, 0 ≤ i → i < S.terms j - 1 → h1 45 (4 * S.charts + i) = dt o (S.terms j - 2 - i)) → X j wd m0 m1 m2 (S.terms j - 1) r h1) → ∀ (k n : Nat) (r sn pl : Int) (h1 : Hh), k < n → pl = (k : Int) - 1 → (k : Int) ≤ S.terms j - 1 → 0 ≤ r ∧ r < 2147483648 → Scb h h1 S → (ordB (S.terms j) k r sn = true ↔ ordB (S.terms j) (S.terms j - 1).toNat o 0 = true) → (∀ i, 0 ≤ i → i < k → dt o (S.terms j - 2 - i) = dt r (k - 1 - i)) → (∀ i, (k : Int) ≤ i → i < S.terms j - 1 → h1 45 (4 * S.charts + i) = dt o (S.terms j - 2 - i)) → w_X11_chart_67 K X110 X 33 n j wd m0 m1 m2 (S.terms j - 1) r sn pl h1 := by
            intro X110 X hX1 hX k
            induction k with
            | zero =>
              intro n r sn pl h1 hn hp hk hr s hB hd so
              obtain ⟨n, rfl⟩ : ∃ m, n = m + 1 := ⟨n - 1, by omega⟩
              rw [ordB_0] at hB
              rw [w_X11_chart_67, if_pos (by omega)]
              exact hX h1 r s hr.1 (fun e => hB.mp e) (fun e q => e (hB.mpr q.2.2.2.2.1.2)) (fun _ i i1 i2 => so i (by omega) i2)
            | succ k ih =>
              intro n r sn pl h1 hn hp hk hr s hB hd so
              obtain ⟨n, rfl⟩ : ∃ m, n = m + 1 := ⟨n - 1, by omega⟩
              have tm : Int.tmod r 10 = r % 10 := Int.tmod_eq_emod_of_nonneg hr.1
              have td : Int.tdiv r 10 = r / 10 := td_pos hr.1 (by omega)
              have e18 : h1 33 18 = S.charts := by rw [s.1 33 (by decide) (by decide) (by decide)]; exact x.rep.charts
              rw [ordB_s] at hB
              rw [w_X11_chart_67, if_neg (by omega)]
              simp only [vb_p, hb_p, Int.reduceAdd]
              rw [tm, td, e_in]
              by_cases e1 : 1 ≤ r % 10 ∧ r % 10 ≤ S.terms j - 1
              · rw [if_pos e1, if_neg (by decide)]
                by_cases e3 : (i32 ((i32 sn >>> (i32 (r % 10) &&& 31)).toInt) &&& i32 1).toInt ≠ 1
                · rw [if_pos e3, e18, w32_id (z := 4 * S.charts) (by omega) (by omega), w32_id (z := 4 * S.charts + pl) (by omega) (by omega), and_t (by omega), w32_id (z := r / 10) (by omega) (by omega), w32_id (z := pl + -1) (by omega) (by omega)]
                  refine ih n (r / 10) _ _ _ (by omega) (by omega) (by omega) (by omega) ⟨fun y y1 y2 y3 => by rw [up_ne y1]; exact s.1 y y1 y2 y3, fun y hy => by rw [up_at, if_neg (by omega)]; exact s.2.1 y hy, fun y hy => by rw [up_ne (by decide)]; exact s.2.2.1 y hy, fun y hy => by rw [up_ne (by decide)]; exact s.2.2.2 y hy⟩ ?_ ?_ ?_
                  · exact ⟨fun w => hB.mp ⟨⟨by omega, e3⟩, w⟩, fun w => (hB.mpr w).2⟩
                  · intro i i1 i2
                    rw [hd i i1 (by omega), dt_div (by omega), show ((k + 1 : Nat) : Int) - 1 - i = (k : Int) - 1 - i + 1 by omega]
                  · intro i i1 i2
                    rw [up_at]
                    by_cases e : i = k
                    · rw [if_pos (by omega), e, hd k (by omega) (by omega), show ((k + 1 : Nat) : Int) - 1 - k = 0 by omega]
                      rfl
                    · rw [if_neg (by omega)]
                      exact so i (by omega) i2
                · rw [if_neg e3]
                  exact hX1 h1 s (fun q => e3 (hB.mpr q.2.2.2.2.1.2).1.2)
              · rw [if_neg e1, if_pos rfl]
                exact hX1 h1 s (fun q => by have := (hB.mpr q.2.2.2.2.1.2).1.1; omega)
          refine ords _ _ (fun h1 s q => no h1 s q) ?_ (S.terms j - 1).toNat NF o 0 _ h (by rw [NF_eq]; omega) (by omega) (by omega) ⟨by omega, ro.2⟩ s0 Iff.rfl ?_ (fun i i1 i2 => by omega)
          · intro h1 r s r0' hr1 hr2 so
            by_cases e : r = 0
            · rw [if_pos (by omega)]
              refine rngs (hr1 e) _ h1 s (fun hm => ?_) (S.terms j).toNat NF 0 (by rw [NF_eq]; omega) (by omega) (by omega) (fun i i1 i2 => by omega)
              exact mods (hr1 e) hm 3 NF 0 h1 (by decide) (by omega) (by omega) s (so e) (fun i i1 i2 => by omega)
            · rw [if_neg (by omega)]
              exact no h1 s (hr2 e)
          · intro i i1 i2
            rw [show (((S.terms j - 1).toNat : Nat) : Int) - 1 - i = S.terms j - 2 - i by omega]
      · rw [if_neg h2, if_pos rfl]; exact no h s0 (fun q => h2 q.2.2.1)
  · rw [if_neg (show ¬ (0 ≤ j ∧ j ≤ S.rules - 1) by omega), if_pos rfl]; exact no h s0 (fun q => hj q.1)
theorem a_chart (j o wd m0 m1 m2 : Int) (ro : r32 o) (r0 : r32 m0) (r1 : r32 m1) (r2 : r32 m2) : Agree (w_X10_chart 0 j o wd m0 m1 m2) (w_X11_chart 33 j o wd m0 m1 m2) := agree_r (rChart j o wd m0 m1 m2) (chR j o wd m0 m1 m2) (chart_C j o wd m0 m1 m2 ro r0 r1 r2) (chart_M j o wd m0 m1 m2 ro r0 r1 r2)
