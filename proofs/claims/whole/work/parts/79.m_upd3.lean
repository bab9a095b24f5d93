/-! PURE 22: paper, move, report -/
theorem due_no {h : Hh} {S : St} (h0 : h 15 8 = 0) (hr : 0 ≤ S.reps) : DuesC h S := ⟨by omega, fun i h1 h2 => by omega⟩
abbrev paOk (c s l u : Int) (S : St) : Prop := (0 ≤ c ∧ c < S.charts) ∧ (-30000 ≤ s ∧ s ≤ 30000) ∧ (-50 ≤ l ∧ l ≤ 50) ∧ -50 ≤ u ∧ u ≤ 50
def St.pa (c s l u : Int) (S : St) : St := if paOk c s l u S then (St.mk S.size S.txt S.rules S.terms S.const S.kind S.sign S.many S.val S.scn S.sc S.charts S.crule S.ord S.wide S.left S.right (fup S.seam c s) (fup S.low c l) (fup S.upp c u) S.rdC S.rdM S.now S.moves S.mC S.mT S.mM S.mN S.mD S.reps S.rB S.rC S.rM S.rS S.rD S.listed S.list) else S
theorem pa_ru {S : St} {c s l u : Int} (j : Int) : RuEq S (St.mk S.size S.txt S.rules S.terms S.const S.kind S.sign S.many S.val S.scn S.sc S.charts S.crule S.ord S.wide S.left S.right (fup S.seam c s) (fup S.low c l) (fup S.upp c u) S.rdC S.rdM S.now S.moves S.mC S.mT S.mM S.mN S.mD S.reps S.rB S.rC S.rM S.rS S.rD S.listed S.list) j := ⟨rfl, rfl, rfl, rfl, rfl, rfl, rfl, rfl⟩
theorem pa_ch {S : St} {c s l u : Int} (j : Int) : ChEq S (St.mk S.size S.txt S.rules S.terms S.const S.kind S.sign S.many S.val S.scn S.sc S.charts S.crule S.ord S.wide S.left S.right (fup S.seam c s) (fup S.low c l) (fup S.upp c u) S.rdC S.rdM S.now S.moves S.mC S.mT S.mM S.mN S.mD S.reps S.rB S.rC S.rM S.rS S.rD S.listed S.list) j := ⟨rfl, rfl, rfl, rfl, rfl⟩
theorem pa_pa {S : St} {c s l u j : Int} (h : j ≠ c) : PaEq S (St.mk S.size S.txt S.rules S.terms S.const S.kind S.sign S.many S.val S.scn S.sc S.charts S.crule S.ord S.wide S.left S.right (fup S.seam c s) (fup S.low c l) (fup S.upp c u) S.rdC S.rdM S.now S.moves S.mC S.mT S.mM S.mN S.mD S.reps S.rB S.rC S.rM S.rS S.rD S.listed S.list) j := ⟨fup_ne h, fup_ne h, fup_ne h⟩
theorem a_paper (c s l u : Int) : Agree (w_X10_paper 0 c s l u) (w_X11_paper 33 c s l u) := by
  refine agree_u (fun S => if paOk c s l u S then 1 else 0) (St.pa c s l u) ?_ ?_ ?_
  · intro S w
    unfold St.pa
    split
    · rename_i q
      obtain ⟨q1, q2, q3, q4⟩ := q
      exact
        (WF.mk'
          (size__ := w.size)
          (txt__ := w.txt)
          (rules__ := w.rules)
          (rule__ := fun j h1 h2 => (w.rule j h1 h2).to (pa_ru j))
          (fresh__ := w.fresh)
          (charts__ := w.charts)
          (chart__ := fun j h1 h2 => (w.chart j h1 h2).to (pa_ch j) (pa_ru _) (Int.le_refl _))
          (papr__ := fun j => by
            show pap (fup S.seam c s j) (fup S.low c l j) (fup S.upp c u j)
            by_cases e : j = c
            · rw [e, fup_at, fup_at, fup_at]; exact ⟨q2, q3, q4⟩
            · rw [fup_ne e, fup_ne e, fup_ne e]; exact w.papr j)
          (cfresh__ := fun j h1 => by
            have h1 : S.charts ≤ j := h1
            show fup S.seam c s j = 0 ∧ fup S.low c l j = 0 ∧ fup S.upp c u j = 0
            rw [fup_ne (by omega), fup_ne (by omega), fup_ne (by omega)]; exact w.cfresh j h1)
          (rd__ := by
            rcases w.rd with r | r
            · exact Or.inl r
            · exact Or.inr (r.to (pa_ch _) (pa_ru _) (Int.le_refl _)))
          (now__ := w.now)
          (moves__ := w.moves)
          (mN__ := w.mN)
          (reps__ := w.reps)
          (rep__ := fun i h1 h2 => (w.rep i h1 h2).to (pa_ch _) (pa_ru _) (Int.le_refl _))
          (rS__ := w.rS)
          (rB__ := w.rB)
          (listed__ := w.listed)
          (list__ := w.list))
    · exact w
  · intro h S b K hK
    have no : ¬ paOk c s l u S → K 0 h := fun q => by
      simp only [if_neg q] at hK
      unfold St.pa at hK
      simp only [if_neg q] at hK
      exact hK h b.c b.d (fun _ _ _ => rfl)
    unfold w_X10_paper w_X10_paper_41
    rw [b_chartAt b]
    by_cases hc : 0 ≤ c ∧ c < S.charts
    · have x := b.cx hc
      have ca := x.ca
      rw [if_pos hc, if_neg (by omega)]
      by_cases h1 : s < -30000
      · rw [if_pos h1]; exact no (fun q => by unfold paOk at q; omega)
      · rw [if_neg h1]
        by_cases h2 : s > 30000
        · rw [if_pos h2]; exact no (fun q => by unfold paOk at q; omega)
        · rw [if_neg h2, e_isSwelling]
          by_cases h3 : -50 ≤ l ∧ l ≤ 50
          · rw [if_pos h3, if_neg (by decide), e_isSwelling]
            by_cases h4 : -50 ≤ u ∧ u ≤ 50
            · rw [if_pos h4, if_pos (by decide), and_t (by omega)]
              unfold w_X4_put w_X6_forgetDues
              simp only [hb_p, Int.reduceAdd]
              have q : paOk c s l u S := ⟨hc, by omega, h3, h4⟩
              unfold St.pa at hK
              simp only [if_pos q] at hK
              refine hK _ ?_ ?_ ?_
              · refine RepC.of (by first | exact b.c.size | (simp (disch := omega) only [up_ne, up_at, if_pos, if_neg]; done) | (simp (disch := omega) only [up_ne, up_at, if_pos, if_neg]; exact b.c.size)) (by first | exact b.c.txt | (simp (disch := omega) only [up_ne, up_at, if_pos, if_neg]; done) | (simp (disch := omega) only [up_ne, up_at, if_pos, if_neg]; exact b.c.txt)) ?_ (by first | exact b.c.rdC | (simp (disch := omega) only [up_ne, up_at, if_pos, if_neg]; done) | (simp (disch := omega) only [up_ne, up_at, if_pos, if_neg]; exact b.c.rdC)) (by first | exact b.c.rdM | (simp (disch := omega) only [up_ne, up_at, if_pos, if_neg]; done) | (simp (disch := omega) only [up_ne, up_at, if_pos, if_neg]; exact b.c.rdM)) (by first | exact b.c.now | (simp (disch := omega) only [up_ne, up_at, if_pos, if_neg]; done) | (simp (disch := omega) only [up_ne, up_at, if_pos, if_neg]; exact b.c.now)) ?_ ?_ (by first | exact b.c.listed | (simp (disch := omega) only [up_ne, up_at, if_pos, if_neg]; done) | (simp (disch := omega) only [up_ne, up_at, if_pos, if_neg]; exact b.c.listed)) (by first | exact b.c.list | (simp (disch := omega) only [up_ne, up_at, if_pos, if_neg]; done) | (simp (disch := omega) only [up_ne, up_at, if_pos, if_neg]; exact b.c.list))
                · have k : ∀ a, a ≠ h 7 c + 6 → a ≠ 15 → up (up (up (up h (h 7 c + 6) 0 s) (h 7 c + 6) 1 l) (h 7 c + 6) 2 u) 15 8 0 a = h a := fun a h1 h2 => by rw [up_ne h2, up_ne h1, up_ne h1, up_ne h1]
                  have k6 := k 6 (by omega) (by omega)
                  have k7 := k 7 (by omega) (by omega)
                  have km := k (-1) (by omega) (by omega)
                  have k0 := k 0 (by omega) (by omega)
                  have f0 : up (up (up (up h (h 7 c + 6) 0 s) (h 7 c + 6) 1 l) (h 7 c + 6) 2 u) 15 8 0 (h 7 c + 6) 0 = s := by first | exact rfl | (simp (disch := omega) only [up_ne, up_at, if_pos, if_neg]; done) | (simp (disch := omega) only [up_ne, up_at, if_pos, if_neg]; exact rfl)
                  have f1 : up (up (up (up h (h 7 c + 6) 0 s) (h 7 c + 6) 1 l) (h 7 c + 6) 2 u) 15 8 0 (h 7 c + 6) 1 = l := by first | exact rfl | (simp (disch := omega) only [up_ne, up_at, if_pos, if_neg]; done) | (simp (disch := omega) only [up_ne, up_at, if_pos, if_neg]; exact rfl)
                  have f2 : up (up (up (up h (h 7 c + 6) 0 s) (h 7 c + 6) 1 l) (h 7 c + 6) 2 u) 15 8 0 (h 7 c + 6) 2 = u := by first | exact rfl | (simp (disch := omega) only [up_ne, up_at, if_pos, if_neg]; done) | (simp (disch := omega) only [up_ne, up_at, if_pos, if_neg]; exact rfl)
                  generalize up (up (up (up h (h 7 c + 6) 0 s) (h 7 c + 6) 1 l) (h 7 c + 6) 2 u) 15 8 0 = h' at *
                  have a := b.c
                  have gap : ∀ j, 0 ≤ j → j < S.charts → j ≠ c → h 7 j + 7 ≤ h 7 c ∨ h 7 c + 7 ≤ h 7 j := fun j j1 j2 j3 => by
                    by_cases e : j < c
                    · exact Or.inl (a.caa j c j1 e hc.2)
                    · exact Or.inr (a.caa c j hc.1 (by omega) j2)
                  refine ⟨by rw [k0]; exact a.rules, ?_, by rw [k6, km]; exact a.ra, by rw [k6]; exact a.raa, by rw [k0]; exact a.charts, ?_, by rw [k7, km]; exact a.ca, by rw [k7]; exact a.caa, by rw [k6, k7]; exact a.rca, by rw [km]; exact a.room⟩
                  · intro j j1 j2
                    rw [k6]
                    have r1 := a.ra j j1 j2
                    have r2 := a.rca j c j1 j2 hc.1 hc.2
                    exact (a.rule j j1 j2).to (pa_ru j) (fun b b1 b2 => k b (by omega) (by omega)) (b.w.rule j j1 j2).terms.2
                  · intro j j1 j2
                    rw [k7]
                    have r1 := a.ca j j1 j2
                    by_cases e : j = c
                    · subst e
                      have cc := a.chart j j1 j2
                      have kk : ∀ b, h 7 j ≤ b → b < h 7 j + 6 → h' b = h b := fun b b1 b2 => k b (by omega) (by omega)
                      exact
                        (ChartC.mk'
                          (rule__ := by rw [kk (h 7 j) (by omega) (by omega), k6]; exact cc.rule)
                          (number__ := by rw [kk (h 7 j) (by omega) (by omega)]; exact cc.number)
                          (size__ := by rw [kk (h 7 j) (by omega) (by omega)]; exact cc.size)
                          (pages__ := by rw [kk (h 7 j) (by omega) (by omega)]; exact cc.pages)
                          (wide__ := by rw [kk (h 7 j) (by omega) (by omega)]; exact cc.wide)
                          (ord__ := by rw [kk (h 7 j + 1) (by omega) (by omega)]; exact cc.ord)
                          (left__ := by rw [kk (h 7 j + 2) (by omega) (by omega)]; exact cc.left)
                          (right__ := by rw [kk (h 7 j + 3) (by omega) (by omega)]; exact cc.right)
                          (least0__ := by rw [kk (h 7 j + 4) (by omega) (by omega)]; exact cc.least0.to (pa_ru _))
                          (least__ := by rw [kk (h 7 j + 4) (by omega) (by omega)]; exact fun i i1 i2 => (cc.least i i1 i2).to (pa_ru _))
                          (most0__ := by rw [kk (h 7 j + 5) (by omega) (by omega)]; exact cc.most0.to (pa_ru _))
                          (most__ := by rw [kk (h 7 j + 5) (by omega) (by omega)]; exact fun i i1 i2 => (cc.most i i1 i2).to (pa_ru _))
                          (seam__ := by rw [f0]; exact fup_at.symm)
                          (low__ := by rw [f1]; exact fup_at.symm)
                          (upp__ := by rw [f2]; exact fup_at.symm))
                    · have r3 := gap j j1 j2 e
                      exact (a.chart j j1 j2).to (pa_ch j) (pa_pa e) (pa_ru _) (fun b b1 b2 => k b (by omega) (by omega)) (by rw [k6])
                · exact b.c.mvp.to mvEq6 (fun b h1 h2 => by first | exact rfl | (simp (disch := omega) only [up_ne, up_at, if_pos, if_neg]; done) | (simp (disch := omega) only [up_ne, up_at, if_pos, if_neg]; exact rfl))
                · exact b.c.rpp.to rpEq6 (by first | exact rfl | (simp (disch := omega) only [up_ne, up_at, if_pos, if_neg]; done) | (simp (disch := omega) only [up_ne, up_at, if_pos, if_neg]; exact rfl)) (fun b h1 h2 => by first | exact rfl | (simp (disch := omega) only [up_ne, up_at, if_pos, if_neg]; done) | (simp (disch := omega) only [up_ne, up_at, if_pos, if_neg]; exact rfl))
              · exact due_no (by first | exact rfl | (simp (disch := omega) only [up_ne, up_at, if_pos, if_neg]; done) | (simp (disch := omega) only [up_ne, up_at, if_pos, if_neg]; exact rfl)) b.w.reps.1
              · exact fun a h1 h2 => by first | exact rfl | (simp (disch := omega) only [up_ne, up_at, if_pos, if_neg]; done) | (simp (disch := omega) only [up_ne, up_at, if_pos, if_neg]; exact rfl)
            · rw [if_neg h4, if_neg (by decide)]; exact no (fun q => by unfold paOk at q; omega)
          · rw [if_neg h3, if_pos rfl]; exact no (fun q => by unfold paOk at q; omega)
    · rw [if_neg hc, if_pos rfl]; exact no (fun q => by unfold paOk at q; omega)
  · intro h S x K hK
    have no : ¬ paOk c s l u S → K 0 h := fun q => by
      simp only [if_neg q] at hK
      unfold St.pa at hK
      simp only [if_neg q] at hK
      exact hK h x.rep (fun _ _ => rfl)
    have cb := x.wf.charts
    unfold w_X11_paper w_X11_paper_51
    rw [m_isChart x]
    by_cases hc : 0 ≤ c ∧ c < S.charts
    · rw [if_pos hc, if_neg (by decide), e_in]
      by_cases h2 : -30000 ≤ s ∧ s ≤ 30000
      · rw [if_pos h2, if_neg (by decide), e_in]
        by_cases h3 : -50 ≤ l ∧ l ≤ 50
        · rw [if_pos h3, if_neg (by decide), e_in]
          by_cases h4 : -50 ≤ u ∧ u ≤ 50
          · rw [if_pos h4, if_pos (by decide), and_t (by omega)]
            simp only [hb_p, Int.reduceAdd]
            have q : paOk c s l u S := ⟨hc, h2, h3, h4⟩
            unfold St.pa at hK
            simp only [if_pos q] at hK
            have a := x.rep
            refine hK _ ?_ (fun a h1 => by first | exact rfl | (simp (disch := omega) only [up_ne, up_at, if_pos, if_neg]; done) | (simp (disch := omega) only [up_ne, up_at, if_pos, if_neg]; exact rfl))
            exact
              (RepM.mk'
                (size__ := by first | exact a.size | (simp (disch := omega) only [up_ne, up_at, if_pos, if_neg]; done) | (simp (disch := omega) only [up_ne, up_at, if_pos, if_neg]; exact a.size))
                (txt__ := by first | exact a.txt | (simp (disch := omega) only [up_ne, up_at, if_pos, if_neg]; done) | (simp (disch := omega) only [up_ne, up_at, if_pos, if_neg]; exact a.txt))
                (rules__ := by first | exact a.rules | (simp (disch := omega) only [up_ne, up_at, if_pos, if_neg]; done) | (simp (disch := omega) only [up_ne, up_at, if_pos, if_neg]; exact a.rules))
                (terms__ := by first | exact a.terms | (simp (disch := omega) only [up_ne, up_at, if_pos, if_neg]; done) | (simp (disch := omega) only [up_ne, up_at, if_pos, if_neg]; exact a.terms))
                (const__ := by first | exact a.const | (simp (disch := omega) only [up_ne, up_at, if_pos, if_neg]; done) | (simp (disch := omega) only [up_ne, up_at, if_pos, if_neg]; exact a.const))
                (kind__ := by first | exact a.kind | (simp (disch := omega) only [up_ne, up_at, if_pos, if_neg]; done) | (simp (disch := omega) only [up_ne, up_at, if_pos, if_neg]; exact a.kind))
                (sign__ := by first | exact a.sign | (simp (disch := omega) only [up_ne, up_at, if_pos, if_neg]; done) | (simp (disch := omega) only [up_ne, up_at, if_pos, if_neg]; exact a.sign))
                (many__ := by first | exact a.many | (simp (disch := omega) only [up_ne, up_at, if_pos, if_neg]; done) | (simp (disch := omega) only [up_ne, up_at, if_pos, if_neg]; exact a.many))
                (val__ := by first | exact a.val | (simp (disch := omega) only [up_ne, up_at, if_pos, if_neg]; done) | (simp (disch := omega) only [up_ne, up_at, if_pos, if_neg]; exact a.val))
                (charts__ := by first | exact a.charts | (simp (disch := omega) only [up_ne, up_at, if_pos, if_neg]; done) | (simp (disch := omega) only [up_ne, up_at, if_pos, if_neg]; exact a.charts))
                (crule__ := by first | exact a.crule | (simp (disch := omega) only [up_ne, up_at, if_pos, if_neg]; done) | (simp (disch := omega) only [up_ne, up_at, if_pos, if_neg]; exact a.crule))
                (ord__ := by first | exact a.ord | (simp (disch := omega) only [up_ne, up_at, if_pos, if_neg]; done) | (simp (disch := omega) only [up_ne, up_at, if_pos, if_neg]; exact a.ord))
                (wide__ := by first | exact a.wide | (simp (disch := omega) only [up_ne, up_at, if_pos, if_neg]; done) | (simp (disch := omega) only [up_ne, up_at, if_pos, if_neg]; exact a.wide))
                (left__ := by first | exact a.left | (simp (disch := omega) only [up_ne, up_at, if_pos, if_neg]; done) | (simp (disch := omega) only [up_ne, up_at, if_pos, if_neg]; exact a.left))
                (right__ := by first | exact a.right | (simp (disch := omega) only [up_ne, up_at, if_pos, if_neg]; done) | (simp (disch := omega) only [up_ne, up_at, if_pos, if_neg]; exact a.right))
                (seam__ := fun j j1 j2 => by
                  rw [up_ne (by decide), up_ne (by decide), up_at]
                  show _ = fup S.seam c s j
                  unfold fup
                  split
                  · rfl
                  · exact a.seam j j1 j2)
                (low__ := fun j j1 j2 => by
                  rw [up_ne (by decide), up_at, up_ne (by decide)]
                  show _ = fup S.low c l j
                  unfold fup
                  split
                  · rfl
                  · exact a.low j j1 j2)
                (upp__ := fun j j1 j2 => by
                  rw [up_at, up_ne (by decide), up_ne (by decide)]
                  show _ = fup S.upp c u j
                  unfold fup
                  split
                  · rfl
                  · exact a.upp j j1 j2)
                (rdC__ := by first | exact a.rdC | (simp (disch := omega) only [up_ne, up_at, if_pos, if_neg]; done) | (simp (disch := omega) only [up_ne, up_at, if_pos, if_neg]; exact a.rdC))
                (rdM__ := by first | exact a.rdM | (simp (disch := omega) only [up_ne, up_at, if_pos, if_neg]; done) | (simp (disch := omega) only [up_ne, up_at, if_pos, if_neg]; exact a.rdM))
                (now__ := by first | exact a.now | (simp (disch := omega) only [up_ne, up_at, if_pos, if_neg]; done) | (simp (disch := omega) only [up_ne, up_at, if_pos, if_neg]; exact a.now))
                (moves__ := by first | exact a.moves | (simp (disch := omega) only [up_ne, up_at, if_pos, if_neg]; done) | (simp (disch := omega) only [up_ne, up_at, if_pos, if_neg]; exact a.moves))
                (mC__ := by first | exact a.mC | (simp (disch := omega) only [up_ne, up_at, if_pos, if_neg]; done) | (simp (disch := omega) only [up_ne, up_at, if_pos, if_neg]; exact a.mC))
                (mT__ := by first | exact a.mT | (simp (disch := omega) only [up_ne, up_at, if_pos, if_neg]; done) | (simp (disch := omega) only [up_ne, up_at, if_pos, if_neg]; exact a.mT))
                (mM__ := by first | exact a.mM | (simp (disch := omega) only [up_ne, up_at, if_pos, if_neg]; done) | (simp (disch := omega) only [up_ne, up_at, if_pos, if_neg]; exact a.mM))
                (mN__ := by first | exact a.mN | (simp (disch := omega) only [up_ne, up_at, if_pos, if_neg]; done) | (simp (disch := omega) only [up_ne, up_at, if_pos, if_neg]; exact a.mN))
                (mD__ := by first | exact a.mD | (simp (disch := omega) only [up_ne, up_at, if_pos, if_neg]; done) | (simp (disch := omega) only [up_ne, up_at, if_pos, if_neg]; exact a.mD))
                (reps__ := by first | exact a.reps | (simp (disch := omega) only [up_ne, up_at, if_pos, if_neg]; done) | (simp (disch := omega) only [up_ne, up_at, if_pos, if_neg]; exact a.reps))
                (rB__ := by first | exact a.rB | (simp (disch := omega) only [up_ne, up_at, if_pos, if_neg]; done) | (simp (disch := omega) only [up_ne, up_at, if_pos, if_neg]; exact a.rB))
                (rC__ := by first | exact a.rC | (simp (disch := omega) only [up_ne, up_at, if_pos, if_neg]; done) | (simp (disch := omega) only [up_ne, up_at, if_pos, if_neg]; exact a.rC))
                (rM__ := by first | exact a.rM | (simp (disch := omega) only [up_ne, up_at, if_pos, if_neg]; done) | (simp (disch := omega) only [up_ne, up_at, if_pos, if_neg]; exact a.rM))
                (rS__ := by first | exact a.rS | (simp (disch := omega) only [up_ne, up_at, if_pos, if_neg]; done) | (simp (disch := omega) only [up_ne, up_at, if_pos, if_neg]; exact a.rS))
                (rD__ := by first | exact a.rD | (simp (disch := omega) only [up_ne, up_at, if_pos, if_neg]; done) | (simp (disch := omega) only [up_ne, up_at, if_pos, if_neg]; exact a.rD))
                (listed__ := by first | exact a.listed | (simp (disch := omega) only [up_ne, up_at, if_pos, if_neg]; done) | (simp (disch := omega) only [up_ne, up_at, if_pos, if_neg]; exact a.listed))
                (list__ := by first | exact a.list | (simp (disch := omega) only [up_ne, up_at, if_pos, if_neg]; done) | (simp (disch := omega) only [up_ne, up_at, if_pos, if_neg]; exact a.list)))
          · rw [if_neg h4, if_neg (by decide)]; exact no (fun q => by unfold paOk at q; omega)
        · rw [if_neg h3, if_pos rfl]; exact no (fun q => by unfold paOk at q; omega)
      · rw [if_neg h2, if_pos rfl]; exact no (fun q => by unfold paOk at q; omega)
    · rw [if_neg hc, if_pos rfl]; exact no (fun q => by unfold paOk at q; omega)
theorem e_full1 (a0 : Int) (h : Hh) (K : Int → Hh → Prop) : w_X1_isFull a0 h K = K (if h a0 5 < 40 then 0 else 1) h := by
  unfold w_X1_isFull w_X1_isFull_14
  split
  · rw [and_t (Or.inl rfl)]
  · rw [and_t (Or.inr rfl)]
theorem e_full6 (a0 : Int) (h : Hh) (K : Int → Hh → Prop) : w_X6_isFull a0 h K = K (if h a0 7 < 60 then 0 else 1) h := by
  unfold w_X6_isFull w_X6_isFull_14
  split
  · rw [and_t (Or.inl rfl)]
  · rw [and_t (Or.inr rfl)]
/-- move -/
abbrev mvOk (c t m v : Int) (S : St) : Prop := (0 ≤ c ∧ c < S.charts) ∧ (1 ≤ t ∧ t < S.terms (S.crule c)) ∧ (0 ≤ m ∧ m < S.many (S.crule c) t) ∧ (-99999 ≤ v ∧ v ≤ 99999) ∧ S.moves < 40
def St.mv (c t m v : Int) (S : St) : St := if mvOk c t m v S then (St.mk S.size S.txt S.rules S.terms S.const S.kind S.sign S.many S.val S.scn S.sc S.charts S.crule S.ord S.wide S.left S.right S.seam S.low S.upp S.rdC S.rdM S.now (S.moves + 1) (fup S.mC S.moves c) (fup S.mT S.moves t) (fup S.mM S.moves m) (fup S.mN S.moves v) (fup S.mD S.moves S.now) S.reps S.rB S.rC S.rM S.rS S.rD S.listed S.list) else S
/-- one more in a row -/
theorem row_up {f g : Int → Int} {n x : Int} (h : ∀ i, 0 ≤ i → i < n → g i = f i) : ∀ i, 0 ≤ i → i < n + 1 → (if i = n then x else g i) = fup f n x i := by
  intro i h1 h2
  unfold fup
  split
  · rfl
  · exact h i h1 (by omega)
theorem a_move (c t m v : Int) : Agree (w_X10_move 0 c t m v) (w_X11_move 33 c t m v) := by
  refine agree_u (fun S => if mvOk c t m v S then S.moves + 1 else -1) (St.mv c t m v) ?_ ?_ ?_
  · intro S w
    unfold St.mv
    split
    · rename_i q
      obtain ⟨q1, q2, q3, q4, q5⟩ := q
      have mb := w.moves
      refine w.upd RcEq.triv w.size w.txt (w.rd' RcEq.triv rfl rfl) w.now (by show 0 ≤ S.moves + 1 ∧ S.moves + 1 ≤ 40; omega) ?_ w.reps (fun i h1 h2 => (w.rep i h1 h2).to' RcEq.triv) w.rS w.rB w.listed w.list
      intro i h1 h2
      have h2 : i < S.moves + 1 := h2
      show -99999 ≤ fup S.mN S.moves v i ∧ fup S.mN S.moves v i ≤ 99999
      by_cases e : i = S.moves
      · rw [e, fup_at]; exact q4
      · rw [fup_ne e]; exact w.mN i h1 (by omega)
    · exact w
  · intro h S b K hK
    have no : ¬ mvOk c t m v S → K (-1) h := fun q => by
      simp only [if_neg q] at hK
      unfold St.mv at hK
      simp only [if_neg q] at hK
      exact hK h b.c b.d (fun _ _ _ => rfl)
    unfold w_X10_move w_X10_move_40 w_X10_move_58
    rw [b_chartAt b]
    by_cases hc : 0 ≤ c ∧ c < S.charts
    · have x := b.cx hc
      have ca := x.ca
      have ra := x.ra
      have mb := b.w.moves
      rw [if_pos hc, if_neg (by omega)]
      by_cases h1 : t < 1
      · rw [if_pos h1]; exact no (fun q => by unfold mvOk at q; omega)
      · rw [if_neg h1, and_t (by omega), x.cc.rule, and_t (by omega), c_hasMark x.rc x.rok]
        by_cases h2 : (0 ≤ t ∧ t < S.terms (S.crule c)) ∧ 0 ≤ m ∧ m < S.many (S.crule c) t
        · rw [if_pos h2, if_neg (by decide)]
          rw [e_full1]
          simp only [Int.reduceAdd, b.c.moves]
          by_cases h3 : S.moves < 40
          · rw [if_pos h3, if_pos rfl]
            by_cases h4 : v < -99999
            · rw [if_pos h4]; exact no (fun q => by unfold mvOk at q; omega)
            · rw [if_neg h4]
              by_cases h5 : v ≤ 99999
              · rw [if_pos h5]
                have q : mvOk c t m v S := ⟨hc, by omega, h2.2, by omega, h3⟩
                unfold St.mv at hK
                simp only [if_pos q] at hK
                unfold w_X1_add
                rw [e_full1, b.c.moves, if_pos h3, if_pos rfl]
                simp only [hb_p, Int.reduceAdd, w_X6_forgetDues]
                simp only [up_ne (show (9 : Int) ≠ 10 by decide), up_ne (show (9 : Int) ≠ 11 by decide), up_ne (show (9 : Int) ≠ 12 by decide), up_ne (show (9 : Int) ≠ 13 by decide), up_ne (show (9 : Int) ≠ 14 by decide), up_ne (show (9 : Int) ≠ 15 by decide), b.c.moves, b.c.now]
                rw [and_t (by omega), and_t (by omega), and_t (by omega), and_t (by omega), and_t (by omega), w32_id (by omega) (by omega), up_at, if_pos rfl]
                refine hK _ ?_ ?_ ?_
                · refine RepC.of (by first | exact b.c.size | (simp (disch := omega) only [up_ne, up_at, if_pos, if_neg]; done) | (simp (disch := omega) only [up_ne, up_at, if_pos, if_neg]; exact b.c.size)) (by first | exact b.c.txt | (simp (disch := omega) only [up_ne, up_at, if_pos, if_neg]; done) | (simp (disch := omega) only [up_ne, up_at, if_pos, if_neg]; exact b.c.txt)) ?_ (by first | exact b.c.rdC | (simp (disch := omega) only [up_ne, up_at, if_pos, if_neg]; done) | (simp (disch := omega) only [up_ne, up_at, if_pos, if_neg]; exact b.c.rdC)) (by first | exact b.c.rdM | (simp (disch := omega) only [up_ne, up_at, if_pos, if_neg]; done) | (simp (disch := omega) only [up_ne, up_at, if_pos, if_neg]; exact b.c.rdM)) (by first | exact b.c.now | (simp (disch := omega) only [up_ne, up_at, if_pos, if_neg]; done) | (simp (disch := omega) only [up_ne, up_at, if_pos, if_neg]; exact b.c.now)) ?_ ?_ (by first | exact b.c.listed | (simp (disch := omega) only [up_ne, up_at, if_pos, if_neg]; done) | (simp (disch := omega) only [up_ne, up_at, if_pos, if_neg]; exact b.c.listed)) (by first | exact b.c.list | (simp (disch := omega) only [up_ne, up_at, if_pos, if_neg]; done) | (simp (disch := omega) only [up_ne, up_at, if_pos, if_neg]; exact b.c.list))
                  · exact b.c.rcp.to b.w RcEq.triv (by first | exact rfl | (simp (disch := omega) only [up_ne, up_at, if_pos, if_neg]; done) | (simp (disch := omega) only [up_ne, up_at, if_pos, if_neg]; exact rfl)) (by first | exact rfl | (simp (disch := omega) only [up_ne, up_at, if_pos, if_neg]; done) | (simp (disch := omega) only [up_ne, up_at, if_pos, if_neg]; exact rfl)) (by first | exact rfl | (simp (disch := omega) only [up_ne, up_at, if_pos, if_neg]; done) | (simp (disch := omega) only [up_ne, up_at, if_pos, if_neg]; exact rfl)) (by first | exact rfl | (simp (disch := omega) only [up_ne, up_at, if_pos, if_neg]; done) | (simp (disch := omega) only [up_ne, up_at, if_pos, if_neg]; exact rfl)) (by first | exact rfl | (simp (disch := omega) only [up_ne, up_at, if_pos, if_neg]; done) | (simp (disch := omega) only [up_ne, up_at, if_pos, if_neg]; exact rfl)) (fun b hb => by first | exact rfl | (simp (disch := omega) only [up_ne, up_at, if_pos, if_neg]; done) | (simp (disch := omega) only [up_ne, up_at, if_pos, if_neg]; exact rfl))
                  · exact ⟨by first | exact rfl | (simp (disch := omega) only [up_ne, up_at, if_pos, if_neg]; done) | (simp (disch := omega) only [up_ne, up_at, if_pos, if_neg]; exact rfl), by first | exact (row_up b.c.mC) | (simp (disch := omega) only [up_ne, up_at, if_pos, if_neg]; done) | (simp (disch := omega) only [up_ne, up_at, if_pos, if_neg]; exact (row_up b.c.mC)), by first | exact (row_up b.c.mT) | (simp (disch := omega) only [up_ne, up_at, if_pos, if_neg]; done) | (simp (disch := omega) only [up_ne, up_at, if_pos, if_neg]; exact (row_up b.c.mT)), by first | exact (row_up b.c.mM) | (simp (disch := omega) only [up_ne, up_at, if_pos, if_neg]; done) | (simp (disch := omega) only [up_ne, up_at, if_pos, if_neg]; exact (row_up b.c.mM)), by first | exact (row_up b.c.mN) | (simp (disch := omega) only [up_ne, up_at, if_pos, if_neg]; done) | (simp (disch := omega) only [up_ne, up_at, if_pos, if_neg]; exact (row_up b.c.mN)), by first | exact (row_up b.c.mD) | (simp (disch := omega) only [up_ne, up_at, if_pos, if_neg]; done) | (simp (disch := omega) only [up_ne, up_at, if_pos, if_neg]; exact (row_up b.c.mD))⟩
                  · exact b.c.rpp.to rpEq6 (by first | exact rfl | (simp (disch := omega) only [up_ne, up_at, if_pos, if_neg]; done) | (simp (disch := omega) only [up_ne, up_at, if_pos, if_neg]; exact rfl)) (fun b h1 h2 => by first | exact rfl | (simp (disch := omega) only [up_ne, up_at, if_pos, if_neg]; done) | (simp (disch := omega) only [up_ne, up_at, if_pos, if_neg]; exact rfl))
                · exact due_no (by first | exact rfl | (simp (disch := omega) only [up_ne, up_at, if_pos, if_neg]; done) | (simp (disch := omega) only [up_ne, up_at, if_pos, if_neg]; exact rfl)) b.w.reps.1
                · exact fun a h1 h2 => by first | exact rfl | (simp (disch := omega) only [up_ne, up_at, if_pos, if_neg]; done) | (simp (disch := omega) only [up_ne, up_at, if_pos, if_neg]; exact rfl)
              · rw [if_neg h5]; exact no (fun q => by unfold mvOk at q; omega)
          · rw [if_neg h3, if_neg (by decide)]; exact no (fun q => by unfold mvOk at q; omega)
        · rw [if_neg h2, if_pos rfl]; exact no (fun q => by unfold mvOk at q; omega)
    · rw [if_neg hc, if_pos rfl]; exact no (fun q => by unfold mvOk at q; omega)
  · intro h S x K hK
    have no : ¬ mvOk c t m v S → K (-1) h := fun q => by
      simp only [if_neg q] at hK
      unfold St.mv at hK
      simp only [if_neg q] at hK
      exact hK h x.rep (fun _ _ => rfl)
    have cb := x.wf.charts
    have rb := x.wf.rules
    have mb := x.wf.moves
    have a := x.rep
    unfold w_X11_move w_X11_move_82
    simp only [Int.reduceAdd]
    rw [m_isChart x]
    by_cases hc : 0 ≤ c ∧ c < S.charts
    · have ok := x.wf.chart c hc.1 hc.2
      have rr := ok.rule
      have rok := x.wf.rule _ rr.1 rr.2
      have ht := rok.terms
      rw [if_pos hc, if_neg (by decide), and_t (by omega), a.crule c hc.1 hc.2, and_t (by omega), a.terms _ rr.1 rr.2, w32_id (by omega) (by omega), e_in]
      by_cases h2 : 1 ≤ t ∧ t < S.terms (S.crule c)
      · have mm := many_le rok (t := t) (by omega) h2.2
        rw [if_pos (show 1 ≤ t ∧ t ≤ S.terms (S.crule c) - 1 by omega), if_neg (by decide), a.crule c hc.1 hc.2, w32_id (z := 5 * S.crule c) (by omega) (by omega), w32_id (z := 5 * S.crule c + t) (by omega) (by omega), and_t (by omega), a.many _ t rr.1 (by omega) (by omega) (by omega), w32_id (by omega) (by omega), e_in]
        by_cases h3 : 0 ≤ m ∧ m < S.many (S.crule c) t
        · rw [if_pos (show 0 ≤ m ∧ m ≤ S.many (S.crule c) t - 1 by omega), if_neg (by decide), e_in]
          by_cases h4 : -99999 ≤ v ∧ v ≤ 99999
          · rw [if_pos h4, if_neg (by decide), a.moves]
            by_cases h5 : S.moves = 40
            · rw [if_neg (fun w => w h5)]; exact no (fun q => by unfold mvOk at q; omega)
            · rw [if_pos h5]
              have q : mvOk c t m v S := ⟨hc, h2, h3, h4, by omega⟩
              unfold St.mv at hK
              simp only [if_pos q] at hK
              simp only [hb_p]
              simp only [up_ne (show (33 : Int) ≠ 53 by decide), up_ne (show (33 : Int) ≠ 54 by decide), up_ne (show (33 : Int) ≠ 55 by decide), up_ne (show (33 : Int) ≠ 56 by decide), up_ne (show (33 : Int) ≠ 57 by decide), a.moves, a.now]
              rw [and_t (by omega), and_t (by omega), and_t (by omega), and_t (by omega), and_t (by omega), w32_id (by omega) (by omega), up_at, if_pos rfl]
              refine hK _ ?_ (fun a h1 => by first | exact rfl | (simp (disch := omega) only [up_ne, up_at, if_pos, if_neg]; done) | (simp (disch := omega) only [up_ne, up_at, if_pos, if_neg]; exact rfl))
              exact a.upd (fun b h1 h2 => by first | exact rfl | (simp (disch := omega) only [up_ne, up_at, if_pos, if_neg]; done) | (simp (disch := omega) only [up_ne, up_at, if_pos, if_neg]; exact rfl)) (by first | exact rfl | (simp (disch := omega) only [up_ne, up_at, if_pos, if_neg]; done) | (simp (disch := omega) only [up_ne, up_at, if_pos, if_neg]; exact rfl)) (by first | exact rfl | (simp (disch := omega) only [up_ne, up_at, if_pos, if_neg]; done) | (simp (disch := omega) only [up_ne, up_at, if_pos, if_neg]; exact rfl)) RcEq.triv (by first | exact a.size | (simp (disch := omega) only [up_ne, up_at, if_pos, if_neg]; done) | (simp (disch := omega) only [up_ne, up_at, if_pos, if_neg]; exact a.size)) (by first | exact a.txt | (simp (disch := omega) only [up_ne, up_at, if_pos, if_neg]; done) | (simp (disch := omega) only [up_ne, up_at, if_pos, if_neg]; exact a.txt)) (by first | exact a.rdC | (simp (disch := omega) only [up_ne, up_at, if_pos, if_neg]; done) | (simp (disch := omega) only [up_ne, up_at, if_pos, if_neg]; exact a.rdC)) (by first | exact a.rdM | (simp (disch := omega) only [up_ne, up_at, if_pos, if_neg]; done) | (simp (disch := omega) only [up_ne, up_at, if_pos, if_neg]; exact a.rdM)) (by first | exact a.now | (simp (disch := omega) only [up_ne, up_at, if_pos, if_neg]; done) | (simp (disch := omega) only [up_ne, up_at, if_pos, if_neg]; exact a.now)) (by first | exact rfl | (simp (disch := omega) only [up_ne, up_at, if_pos, if_neg]; done) | (simp (disch := omega) only [up_ne, up_at, if_pos, if_neg]; exact rfl)) (by first | exact (row_up a.mC) | (simp (disch := omega) only [up_ne, up_at, if_pos, if_neg]; done) | (simp (disch := omega) only [up_ne, up_at, if_pos, if_neg]; exact (row_up a.mC))) (by first | exact (row_up a.mT) | (simp (disch := omega) only [up_ne, up_at, if_pos, if_neg]; done) | (simp (disch := omega) only [up_ne, up_at, if_pos, if_neg]; exact (row_up a.mT))) (by first | exact (row_up a.mM) | (simp (disch := omega) only [up_ne, up_at, if_pos, if_neg]; done) | (simp (disch := omega) only [up_ne, up_at, if_pos, if_neg]; exact (row_up a.mM))) (by first | exact (row_up a.mN) | (simp (disch := omega) only [up_ne, up_at, if_pos, if_neg]; done) | (simp (disch := omega) only [up_ne, up_at, if_pos, if_neg]; exact (row_up a.mN))) (by first | exact (row_up a.mD) | (simp (disch := omega) only [up_ne, up_at, if_pos, if_neg]; done) | (simp (disch := omega) only [up_ne, up_at, if_pos, if_neg]; exact (row_up a.mD))) (by first | exact a.reps | (simp (disch := omega) only [up_ne, up_at, if_pos, if_neg]; done) | (simp (disch := omega) only [up_ne, up_at, if_pos, if_neg]; exact a.reps)) (by first | exact a.rB | (simp (disch := omega) only [up_ne, up_at, if_pos, if_neg]; done) | (simp (disch := omega) only [up_ne, up_at, if_pos, if_neg]; exact a.rB)) (by first | exact a.rC | (simp (disch := omega) only [up_ne, up_at, if_pos, if_neg]; done) | (simp (disch := omega) only [up_ne, up_at, if_pos, if_neg]; exact a.rC)) (by first | exact a.rM | (simp (disch := omega) only [up_ne, up_at, if_pos, if_neg]; done) | (simp (disch := omega) only [up_ne, up_at, if_pos, if_neg]; exact a.rM)) (by first | exact a.rS | (simp (disch := omega) only [up_ne, up_at, if_pos, if_neg]; done) | (simp (disch := omega) only [up_ne, up_at, if_pos, if_neg]; exact a.rS)) (by first | exact a.rD | (simp (disch := omega) only [up_ne, up_at, if_pos, if_neg]; done) | (simp (disch := omega) only [up_ne, up_at, if_pos, if_neg]; exact a.rD)) (by first | exact a.listed | (simp (disch := omega) only [up_ne, up_at, if_pos, if_neg]; done) | (simp (disch := omega) only [up_ne, up_at, if_pos, if_neg]; exact a.listed)) (by first | exact a.list | (simp (disch := omega) only [up_ne, up_at, if_pos, if_neg]; done) | (simp (disch := omega) only [up_ne, up_at, if_pos, if_neg]; exact a.list))
          · rw [if_neg h4, if_pos rfl]; exact no (fun q => by unfold mvOk at q; omega)
        · rw [if_neg (show ¬ (0 ≤ m ∧ m ≤ S.many (S.crule c) t - 1) by omega), if_pos rfl]; exact no (fun q => by unfold mvOk at q; omega)
      · rw [if_neg (show ¬ (1 ≤ t ∧ t ≤ S.terms (S.crule c) - 1) by omega), if_pos rfl]; exact no (fun q => by unfold mvOk at q; omega)
    · rw [if_neg hc, if_pos rfl]; exact no (fun q => by unfold mvOk at q; omega)
