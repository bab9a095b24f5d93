/-! PURE 32: chart, both -/
theorem chart_C (j o wd m0 m1 m2 : Int) (ro : r32 o) (r0 : r32 m0) (r1 : r32 m1) (r2 : r32 m2) (h : Hh) (S : St) (b : Both h S) (K : Int → Hh → Prop) (hK : ∀ h' S', chR j o wd m0 m1 m2 S S' → RepC h' S' → WF S' → DuesC h' S' → keepM h h' → K (rChart j o wd m0 m1 m2 S) h') : w_X10_chart 0 j o wd m0 m1 m2 h K := by
  have no : ¬ chOk j o wd m0 m1 m2 S → K (-1) h := fun q => by
    have g := hK h S (Or.inl ⟨q, rfl⟩) b.c b.w b.d (fun _ _ _ => rfl)
    unfold rChart at g
    rw [if_neg q] at g
    exact g
  have cb := b.w.charts
  unfold w_X10_chart w_X10_chart_34 w_X10_chart_53
  rw [b_ruleAt b]
  by_cases hj : 0 ≤ j ∧ j < S.rules
  · have ok := b.w.rule j hj.1 hj.2
    have rc := b.c.rule j hj.1 hj.2
    have ra := b.c.ra j hj.1 hj.2
    have ht := ok.terms
    rw [if_pos hj, if_neg (by omega), b.c.charts]
    by_cases h1 : S.charts ≥ 6
    · rw [if_pos h1]; exact no (fun q => by have := q.2.1; omega)
    · rw [if_neg h1]
      by_cases h2 : wd < 10
      · rw [if_pos h2]; exact no (fun q => by have := q.2.2.1; omega)
      · rw [if_neg h2]
        by_cases h3 : wd ≤ 1000
        · rw [if_pos h3, and_t (by omega)]
          refine c_hasAll rc ok (fun hm => ?_) (fun hm => ?_)
          · rw [if_neg (by decide)]
            refine c_isOrder rc ok ro (fun o0 hB => ?_) (fun hB => ?_)
            · rw [if_pos (by decide)]
              simp only [vb_p]
              rw [rc.terms, w32_id (by omega) (by omega), if_neg (by omega)]
              unfold w_X10_chart_76 w_X10_chart_120
              rw [e_areMod r0]
              by_cases g0 : modOk m0
              · rw [if_pos (Or.inl ⟨by decide, g0⟩), if_neg (by decide)]
                have s1 : ∀ x, (x = 0 ↔ S.terms j - 2 ≤ 1) → w_X10_chart_95 K (h (-1) 0) 0 o wd m0 m1 m2 (h 6 j) (S.terms j - 2) x m1 h := by
                  intro x hx
                  unfold w_X10_chart_95 w_X10_chart_120
                  rw [e_areMod r1]
                  by_cases g1 : (x ≠ 0 ∧ modOk m1) ∨ (x = 0 ∧ m1 = 0)
                  · rw [if_pos g1, if_neg (by decide)]
                    have s2 : ∀ y, (y = 0 ↔ S.terms j - 2 ≤ 2) → w_X10_chart_114 K (h (-1) 0) 0 o wd m0 m1 m2 (h 6 j) y m2 h := by
                      intro y hy
                      unfold w_X10_chart_114 w_X10_chart_120
                      rw [e_areMod r2]
                      by_cases g2 : (y ≠ 0 ∧ modOk m2) ∨ (y = 0 ∧ m2 = 0)
                      · rw [if_pos g2, if_pos (by decide)]
                        have q : chOk j o wd m0 m1 m2 S := by
                          refine ⟨hj, by omega, by omega, hm, ⟨o0, hB⟩, fun p p1 p2 => ?_⟩
                          have e3 : p = 0 ∨ p = 1 ∨ p = 2 := by omega
                          rcases e3 with e | e | e <;> subst e
                          · exact Or.inl ⟨by omega, g0⟩
                          · rcases g1 with g | g
                            · exact Or.inl ⟨by have := g.1; omega, g.2⟩
                            · exact Or.inr ⟨by have := g.1; omega, g.2⟩
                          · rcases g2 with g | g
                            · exact Or.inl ⟨by have := g.1; omega, g.2⟩
                            · exact Or.inr ⟨by have := g.1; omega, g.2⟩
                        refine c_makeChart b q ro.2 r0 r1 r2 (Int.le_refl _) (fun h' a1 a2 a3 => ?_)
                        have g := hK h' _ (Or.inr ⟨q, rfl⟩) a1 (ch_wf b.w q) a2 a3
                        unfold rChart at g
                        rw [if_pos q] at g
                        exact g
                      · rw [if_neg g2, if_neg (by decide)]
                        refine no (fun q => g2 ?_)
                        rcases q.2.2.2.2.2 2 (by omega) (by omega) with w | w
                        · exact Or.inl ⟨by have := w.1; omega, w.2⟩
                        · exact Or.inr ⟨by have := w.1; omega, w.2⟩
                    by_cases e2 : S.terms j - 2 ≤ 2
                    · rw [if_pos e2]; exact s2 0 ⟨fun _ => e2, fun _ => rfl⟩
                    · rw [if_neg e2]; exact s2 1 ⟨fun w => by omega, fun w => absurd w e2⟩
                  · rw [if_neg g1, if_pos rfl]
                    refine no (fun q => g1 ?_)
                    rcases q.2.2.2.2.2 1 (by omega) (by omega) with w | w
                    · exact Or.inl ⟨by have := w.1; omega, w.2⟩
                    · exact Or.inr ⟨by have := w.1; omega, w.2⟩
                by_cases e1 : S.terms j - 2 ≤ 1
                · rw [if_pos e1]; exact s1 0 ⟨fun _ => e1, fun _ => rfl⟩
                · rw [if_neg e1]; exact s1 1 ⟨fun w => by omega, fun w => absurd w e1⟩
              · have ng : ¬ (((1 : Int) ≠ 0 ∧ modOk m0) ∨ ((1 : Int) = 0 ∧ m0 = 0)) := by
                  rintro (w | w)
                  · exact g0 w.2
                  · exact absurd w.1 (by decide)
                rw [if_neg ng, if_pos rfl]
                refine no (fun q => g0 ?_)
                rcases q.2.2.2.2.2 0 (by omega) (by omega) with w | w
                · exact w.2
                · have := w.1; omega
            · rw [if_neg (by decide)]
              exact no (fun q => hB q.2.2.2.2.1)
          · rw [if_pos rfl]
            exact no (fun q => hm q.2.2.2.1)
        · rw [if_neg h3]; exact no (fun q => by have := q.2.2.1; omega)
  · rw [if_neg hj, if_pos rfl]; exact no (fun q => hj q.1)
/-- cells behind the last chart don't matter -/
theorem RepM.scrib {h h' : Hh} {S : St} (w : WF S) (a : RepM h S) (k0 : ∀ y, y ≠ 45 → y ≠ 47 → y ≠ 48 → h' y = h y) (k1 : ∀ y, y < 4 * S.charts → h' 45 y = h 45 y) (k2 : ∀ y, y < 3 * S.charts → h' 47 y = h 47 y) (k3 : ∀ y, y < 3 * S.charts → h' 48 y = h 48 y) : RepM h' S := by
  have tb : ∀ c, 0 ≤ c → c < S.charts → S.terms (S.crule c) ≤ 5 := fun c c1 c2 => by
    have ok := w.chart c c1 c2
    exact (w.rule _ ok.rule.1 ok.rule.2).terms.2
  have kk : ∀ y, y ≠ 45 → y ≠ 47 → y ≠ 48 → h' y = h y := k0
  refine RepM.mk' ?_ ?_ ?_ ?_ ?_ ?_ ?_ ?_ ?_ ?_ ?_ ?_ ?_ ?_ ?_ ?_ ?_ ?_ ?_ ?_ ?_ ?_ ?_ ?_ ?_ ?_ ?_ ?_ ?_ ?_ ?_ ?_ ?_ ?_ ?_
  · rw [kk 33 (by decide) (by decide) (by decide)]; exact a.size
  · rw [kk 34 (by decide) (by decide) (by decide)]; exact a.txt
  · rw [kk 33 (by decide) (by decide) (by decide)]; exact a.rules
  · rw [kk 38 (by decide) (by decide) (by decide)]; exact a.terms
  · rw [kk 39 (by decide) (by decide) (by decide)]; exact a.const
  · rw [kk 40 (by decide) (by decide) (by decide)]; exact a.kind
  · rw [kk 41 (by decide) (by decide) (by decide)]; exact a.sign
  · rw [kk 42 (by decide) (by decide) (by decide)]; exact a.many
  · rw [kk 43 (by decide) (by decide) (by decide)]; exact a.val
  · rw [kk 33 (by decide) (by decide) (by decide)]; exact a.charts
  · rw [kk 44 (by decide) (by decide) (by decide)]; exact a.crule
  · intro c k c1 c2 d1 d2
    have := tb c c1 c2
    rw [k1 _ (by omega)]; exact a.ord c k c1 c2 d1 d2
  · rw [kk 46 (by decide) (by decide) (by decide)]; exact a.wide
  · intro c p c1 c2 d1 d2
    have := tb c c1 c2
    rw [k2 _ (by omega)]; exact a.left c p c1 c2 d1 d2
  · intro c p c1 c2 d1 d2
    have := tb c c1 c2
    rw [k3 _ (by omega)]; exact a.right c p c1 c2 d1 d2
  · rw [kk 49 (by decide) (by decide) (by decide)]; exact a.seam
  · rw [kk 50 (by decide) (by decide) (by decide)]; exact a.low
  · rw [kk 51 (by decide) (by decide) (by decide)]; exact a.upp
  · rw [kk 33 (by decide) (by decide) (by decide)]; exact a.rdC
  · rw [kk 52 (by decide) (by decide) (by decide)]; exact a.rdM
  · rw [kk 33 (by decide) (by decide) (by decide)]; exact a.now
  · rw [kk 33 (by decide) (by decide) (by decide)]; exact a.moves
  · rw [kk 53 (by decide) (by decide) (by decide)]; exact a.mC
  · rw [kk 54 (by decide) (by decide) (by decide)]; exact a.mT
  · rw [kk 55 (by decide) (by decide) (by decide)]; exact a.mM
  · rw [kk 56 (by decide) (by decide) (by decide)]; exact a.mN
  · rw [kk 57 (by decide) (by decide) (by decide)]; exact a.mD
  · rw [kk 33 (by decide) (by decide) (by decide)]; exact a.reps
  · rw [kk 58 (by decide) (by decide) (by decide)]; exact a.rB
  · rw [kk 59 (by decide) (by decide) (by decide)]; exact a.rC
  · rw [kk 60 (by decide) (by decide) (by decide)]; exact a.rM
  · rw [kk 61 (by decide) (by decide) (by decide)]; exact a.rS
  · rw [kk 62 (by decide) (by decide) (by decide)]; exact a.rD
  · rw [kk 33 (by decide) (by decide) (by decide)]; exact a.listed
  · rw [kk 63 (by decide) (by decide) (by decide)]; exact a.list
/-- scribbled behind the last chart, with the order and the first moduli laid down -/
def Scb (h h' : Hh) (S : St) : Prop := (∀ y, y ≠ 45 → y ≠ 47 → y ≠ 48 → h' y = h y) ∧ (∀ y, y < 4 * S.charts → h' 45 y = h 45 y) ∧ (∀ y, y < 3 * S.charts → h' 47 y = h 47 y) ∧ (∀ y, y < 3 * S.charts → h' 48 y = h 48 y)
theorem Scb.rep {h h' : Hh} {S : St} (x : Mx h S) (s : Scb h h' S) : RepM h' S := x.rep.scrib x.wf s.1 s.2.1 s.2.2.1 s.2.2.2
theorem Scb.keep {h h' : Hh} {S : St} (s : Scb h h' S) : keepC h h' := fun y hy => s.1 y (by omega) (by omega) (by omega)
/-- the new chart's cells of the reference -/
theorem ch_repM {h h' : Hh} {S : St} (x : Mx h S) {j o wd m0 m1 m2 : Int} (q : chOk j o wd m0 m1 m2 S) (s : Scb h h' S) (so : ∀ k, 0 ≤ k → k < S.terms j - 1 → h' 45 (4 * S.charts + k) = dt o (S.terms j - 2 - k)) (sl : ∀ p, 0 ≤ p → p < 3 → h' 47 (3 * S.charts + p) = Int.tdiv (mp m0 m1 m2 p) 100 ∧ h' 48 (3 * S.charts + p) = Int.tmod (mp m0 m1 m2 p) 100) : RepM (up (up (up h' 44 S.charts j) 46 S.charts wd) 33 18 (S.charts + 1)) (St.ch j o wd m0 m1 m2 S) := by
  have a := s.rep x
  have w := x.wf
  have cb := w.charts
  obtain ⟨q1, q2, q3, q4, q5, q6⟩ := q
  have ht := (w.rule j q1.1 q1.2).terms
  have k0 : ∀ y, y ≠ 33 → y ≠ 44 → y ≠ 46 → (up (up (up h' 44 S.charts j) 46 S.charts wd) 33 18 (S.charts + 1)) y = h' y := fun y y1 y2 y3 => by rw [up_ne y1, up_ne y3, up_ne y2]
  have k33 : ∀ k, k ≠ 18 → (up (up (up h' 44 S.charts j) 46 S.charts wd) 33 18 (S.charts + 1)) 33 k = h' 33 k := fun k hk => by rw [up_at, if_neg hk, up_ne (by decide), up_ne (by decide)]
  have k18 : (up (up (up h' 44 S.charts j) 46 S.charts wd) 33 18 (S.charts + 1)) 33 18 = S.charts + 1 := by rw [up_at, if_pos rfl]
  have k44 : ∀ c, (up (up (up h' 44 S.charts j) 46 S.charts wd) 33 18 (S.charts + 1)) 44 c = if c = S.charts then j else h' 44 c := fun c => by rw [up_ne (by decide), up_ne (by decide), up_at]
  have k46 : ∀ c, (up (up (up h' 44 S.charts j) 46 S.charts wd) 33 18 (S.charts + 1)) 46 c = if c = S.charts then wd else h' 46 c := fun c => by rw [up_ne (by decide), up_at, up_ne (by decide)]
  generalize up (up (up h' 44 S.charts j) 46 S.charts wd) 33 18 (S.charts + 1) = h6 at *
  have z : ∀ y, y ≠ 33 → y ≠ 44 → y ≠ 46 → h6 y = h' y := k0
  refine RepM.mk' ?_ ?_ ?_ ?_ ?_ ?_ ?_ ?_ ?_ ?_ ?_ ?_ ?_ ?_ ?_ ?_ ?_ ?_ ?_ ?_ ?_ ?_ ?_ ?_ ?_ ?_ ?_ ?_ ?_ ?_ ?_ ?_ ?_ ?_ ?_
  · rw [k33 _ (by decide)]; exact a.size
  · rw [z 34 (by decide) (by decide) (by decide)]; exact a.txt
  · rw [k33 _ (by decide)]; exact a.rules
  · rw [z 38 (by decide) (by decide) (by decide)]; exact a.terms
  · rw [z 39 (by decide) (by decide) (by decide)]; exact a.const
  · rw [z 40 (by decide) (by decide) (by decide)]; exact a.kind
  · rw [z 41 (by decide) (by decide) (by decide)]; exact a.sign
  · rw [z 42 (by decide) (by decide) (by decide)]; exact a.many
  · rw [z 43 (by decide) (by decide) (by decide)]; exact a.val
  · exact k18
  · intro c c1 c2
    have c2 : c < S.charts + 1 := c2
    rw [k44]
    by_cases e : c = S.charts
    · rw [if_pos e, e]; exact ch_crule.symm
    · rw [if_neg e, a.crule c c1 (by omega)]; exact (ch_ch e).crule.symm
  · intro c k c1 c2 d1 d2
    have c2 : c < S.charts + 1 := c2
    rw [z 45 (by decide) (by decide) (by decide)]
    by_cases e : c = S.charts
    · subst e
      rw [ch_crule] at d2
      rw [so k d1 d2, ch_ord]
    · rw [(ch_ch e).crule, (ch_ru _).terms] at d2
      rw [a.ord c k c1 (by omega) d1 d2, (ch_ch e).ord]
  · intro c c1 c2
    have c2 : c < S.charts + 1 := c2
    rw [k46]
    by_cases e : c = S.charts
    · rw [if_pos e, e]; exact ch_wide.symm
    · rw [if_neg e, a.wide c c1 (by omega)]; exact (ch_ch e).wide.symm
  · intro c p c1 c2 d1 d2
    have c2 : c < S.charts + 1 := c2
    rw [z 47 (by decide) (by decide) (by decide)]
    by_cases e : c = S.charts
    · subst e
      rw [ch_crule] at d2
      have d2 : p < S.terms j - 2 := d2
      rw [(sl p d1 (by omega)).1, ch_left]
      rcases q6 p d1 (by omega) with g | g
      · exact td_pos g.2.1 (by omega)
      · omega
    · rw [(ch_ch e).crule, (ch_ru _).terms] at d2
      rw [a.left c p c1 (by omega) d1 d2, (ch_ch e).left]
  · intro c p c1 c2 d1 d2
    have c2 : c < S.charts + 1 := c2
    rw [z 48 (by decide) (by decide) (by decide)]
    by_cases e : c = S.charts
    · subst e
      rw [ch_crule] at d2
      have d2 : p < S.terms j - 2 := d2
      rw [(sl p d1 (by omega)).2, ch_right]
      rcases q6 p d1 (by omega) with g | g
      · exact Int.tmod_eq_emod_of_nonneg g.2.1
      · omega
    · rw [(ch_ch e).crule, (ch_ru _).terms] at d2
      rw [a.right c p c1 (by omega) d1 d2, (ch_ch e).right]
  · rw [z 49 (by decide) (by decide) (by decide)]; exact a.seam
  · rw [z 50 (by decide) (by decide) (by decide)]; exact a.low
  · rw [z 51 (by decide) (by decide) (by decide)]; exact a.upp
  · rw [k33 _ (by decide)]; exact a.rdC
  · intro hr k d1 d2
    have hr : S.rdC ≠ -1 := hr
    have e : S.rdC ≠ S.charts := by
      rcases w.rd with r | r
      · exact absurd r hr
      · have := r.chart; omega
    have d2 : k < (St.ch j o wd m0 m1 m2 S).terms ((St.ch j o wd m0 m1 m2 S).crule S.rdC) - 1 := d2
    show h6 52 k = dg S.rdM ((St.ch j o wd m0 m1 m2 S).terms ((St.ch j o wd m0 m1 m2 S).crule S.rdC) - 2 - k)
    rw [(ch_ch e).crule, (ch_ru _).terms] at d2 ⊢
    rw [z 52 (by decide) (by decide) (by decide)]
    exact a.rdM hr k d1 d2
  · rw [k33 _ (by decide)]; exact a.now
  · rw [k33 _ (by decide)]; exact a.moves
  · rw [z 53 (by decide) (by decide) (by decide)]; exact a.mC
  · rw [z 54 (by decide) (by decide) (by decide)]; exact a.mT
  · rw [z 55 (by decide) (by decide) (by decide)]; exact a.mM
  · rw [z 56 (by decide) (by decide) (by decide)]; exact a.mN
  · rw [z 57 (by decide) (by decide) (by decide)]; exact a.mD
  · rw [k33 _ (by decide)]; exact a.reps
  · rw [z 58 (by decide) (by decide) (by decide)]; exact a.rB
  · rw [z 59 (by decide) (by decide) (by decide)]; exact a.rC
  · intro i k i1 i2 d1 d2
    have i2 : i < S.reps := i2
    have e : S.rC i ≠ S.charts := by have := (w.rep i i1 i2).chart; omega
    have d2 : k < (St.ch j o wd m0 m1 m2 S).terms ((St.ch j o wd m0 m1 m2 S).crule (S.rC i)) - 1 := d2
    show h6 60 (4 * i + k) = dg (S.rM i) ((St.ch j o wd m0 m1 m2 S).terms ((St.ch j o wd m0 m1 m2 S).crule (S.rC i)) - 2 - k)
    rw [(ch_ch e).crule, (ch_ru _).terms] at d2 ⊢
    rw [z 60 (by decide) (by decide) (by decide)]
    exact a.rM i k i1 i2 d1 d2
  · rw [z 61 (by decide) (by decide) (by decide)]; exact a.rS
  · rw [z 62 (by decide) (by decide) (by decide)]; exact a.rD
  · rw [k33 _ (by decide)]; exact a.listed
  · rw [z 63 (by decide) (by decide) (by decide)]; exact a.list
