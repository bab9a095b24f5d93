/-! PURE 31: chart: the class's -/
def mp (m0 m1 m2 p : Int) : Int := if p = 0 then m0 else if p = 1 then m1 else m2
def chOk (j o wd m0 m1 m2 : Int) (S : St) : Prop := (0 ≤ j ∧ j < S.rules) ∧ S.charts < 6 ∧ (10 ≤ wd ∧ wd ≤ 1000) ∧ (∀ t, 0 ≤ t → t < S.terms j → S.many j t ≠ 0) ∧ (0 ≤ o ∧ ordB (S.terms j) (S.terms j - 1).toNat o 0 = true) ∧ (∀ p, 0 ≤ p → p < 3 → (p < S.terms j - 2 ∧ modOk (mp m0 m1 m2 p)) ∨ (S.terms j - 2 ≤ p ∧ mp m0 m1 m2 p = 0))
def St.ch (j o wd m0 m1 m2 : Int) (S : St) : St := (St.mk S.size S.txt S.rules S.terms S.const S.kind S.sign S.many S.val S.scn S.sc (S.charts + 1) (fup S.crule S.charts j) (fun c => if c = S.charts then (fun k => dt o (S.terms j - 2 - k)) else S.ord c) (fup S.wide S.charts wd) (fun c => if c = S.charts then (fun p => mp m0 m1 m2 p / 100) else S.left c) (fun c => if c = S.charts then (fun p => mp m0 m1 m2 p % 100) else S.right c) S.seam S.low S.upp S.rdC S.rdM S.now S.moves S.mC S.mT S.mM S.mN S.mD S.reps S.rB S.rC S.rM S.rS S.rD S.listed S.list)
def chR (j o wd m0 m1 m2 : Int) (S S' : St) : Prop := (¬ chOk j o wd m0 m1 m2 S ∧ S' = S) ∨ (chOk j o wd m0 m1 m2 S ∧ S' = St.ch j o wd m0 m1 m2 S)
noncomputable def rChart (j o wd m0 m1 m2 : Int) (S : St) : Int := by
  classical
  exact if chOk j o wd m0 m1 m2 S then S.charts else -1
theorem ch_ru {S : St} {j o wd m0 m1 m2 : Int} (k : Int) : RuEq S (St.ch j o wd m0 m1 m2 S) k := ⟨rfl, rfl, rfl, rfl, rfl, rfl, rfl, rfl⟩
theorem ch_ch {S : St} {j o wd m0 m1 m2 c : Int} (h : c ≠ S.charts) : ChEq S (St.ch j o wd m0 m1 m2 S) c := ⟨fup_ne h, if_neg h, fup_ne h, if_neg h, if_neg h⟩
theorem ch_crule {S : St} {j o wd m0 m1 m2 : Int} : (St.ch j o wd m0 m1 m2 S).crule S.charts = j := fup_at
theorem ch_ord {S : St} {j o wd m0 m1 m2 k : Int} : (St.ch j o wd m0 m1 m2 S).ord S.charts k = dt o (S.terms j - 2 - k) := congrFun (if_pos rfl) k
theorem ch_wide {S : St} {j o wd m0 m1 m2 : Int} : (St.ch j o wd m0 m1 m2 S).wide S.charts = wd := fup_at
theorem ch_left {S : St} {j o wd m0 m1 m2 p : Int} : (St.ch j o wd m0 m1 m2 S).left S.charts p = mp m0 m1 m2 p / 100 := congrFun (if_pos rfl) p
theorem ch_right {S : St} {j o wd m0 m1 m2 p : Int} : (St.ch j o wd m0 m1 m2 S).right S.charts p = mp m0 m1 m2 p % 100 := congrFun (if_pos rfl) p
theorem ch_wf {S : St} (w : WF S) {j o wd m0 m1 m2 : Int} (q : chOk j o wd m0 m1 m2 S) : WF (St.ch j o wd m0 m1 m2 S) := by
  obtain ⟨q1, q2, q3, q4, q5, q6⟩ := q
  have rok := w.rule j q1.1 q1.2
  have ht := rok.terms
  have cb := w.charts
  refine WF.mk' w.size w.txt w.rules (fun k k1 k2 => (w.rule k k1 k2).to (ch_ru k)) w.fresh (by show 0 ≤ S.charts + 1 ∧ S.charts + 1 ≤ 6; omega) ?_ w.papr (fun c hc => w.cfresh c (by have hc : S.charts + 1 ≤ c := hc; omega)) ?_ w.now w.moves w.mN w.reps (fun i i1 i2 => ?_) w.rS w.rB w.listed w.list
  · intro c c1 c2
    have c2 : c < S.charts + 1 := c2
    by_cases e : c = S.charts
    · subst e
      refine ChartOk.mk' ?_ ?_ ?_ ?_ ?_ ?_
      · rw [ch_crule]; exact q1
      · intro k k1 k2
        rw [ch_crule] at k2 ⊢
        rw [ch_ord]
        have k2 : k < S.terms j - 1 := k2
        have := ordB_dig _ _ _ (by omega) q5.2 (S.terms j - 2 - k) (by omega) (by omega)
        exact this
      · intro t t1 t2
        rw [ch_crule] at t2 ⊢
        have g := q4 t t1 t2
        have g2 := rok.many t t1 t2
        have g3 : (St.ch j o wd m0 m1 m2 S).many j t = S.many j t := rfl
        rw [g3]; omega
      · rw [ch_wide]; exact q3
      · intro p p1 p2
        rw [ch_crule] at p2
        have p2 : p < S.terms j - 2 := p2
        rw [ch_left]
        rcases q6 p p1 (by omega) with g | g
        · exact g.2.2.1
        · omega
      · intro p p1 p2
        rw [ch_crule] at p2
        have p2 : p < S.terms j - 2 := p2
        rw [ch_right]
        rcases q6 p p1 (by omega) with g | g
        · exact g.2.2.2
        · omega
    · exact (w.chart c c1 (by omega)).to (ch_ch e) (ch_ru _) (Int.le_refl _)
  · rcases w.rd with r | r
    · exact Or.inl r
    · exact Or.inr (r.to (ch_ch (by have := r.chart; show S.rdC ≠ S.charts; omega)) (ch_ru _) (by show S.charts ≤ S.charts + 1; omega))
  · have r := w.rep i i1 i2
    exact r.to (ch_ch (by have := r.chart; omega)) (ch_ru _) (by show S.charts ≤ S.charts + 1; omega)
/-- the class's new chart, laid down and put among the others -/
theorem c_makeChart {h : Hh} {S : St} (b : Both h S) {j o wd m0 m1 m2 : Int} (q : chOk j o wd m0 m1 m2 S) (ho : o < 2147483648) (r0 : r32 m0) (r1 : r32 m1) (r2 : r32 m2) {n0 : Int} (hn0 : n0 ≤ h (-1) 0) {K : Int → Hh → Prop} (hK : ∀ h', RepC h' (St.ch j o wd m0 m1 m2 S) → DuesC h' (St.ch j o wd m0 m1 m2 S) → keepM h h' → K S.charts h') :
    (vb (h (-1) 0) fun z15 => hb (nw h (dfl 0)) fun h17 => 0 ≤ z15 ∧ (w_X0_init z15 (h 6 j) (h17 0 5) wd h17 (fun _ h19 => (h19 z15 5 = z15 + 1) ∧ ((h19 z15 6 = z15 + 2) ∧ ((h19 z15 7 = z15 + 3) ∧ ((h19 z15 8 = z15 + 4) ∧ ((h19 z15 9 = z15 + 5) ∧ ((h19 z15 10 = z15 + 6) ∧ ((n0 ≤ z15) ∧ (w_X0_putOrder z15 o h19 (fun _ h27 => w_X0_putModuli z15 0 m0 h27 (fun _ h28 => w_X0_putModuli z15 1 m1 h28 (fun _ h29 => w_X0_putModuli z15 2 m2 h29 (fun _ h30 => ((0 : Int) ≤ h30 0 5 ∧ (h30 0 5 : Int) < 6) ∧ (hb (up h30 (0 + 7) (h30 0 5) z15) fun h32 => hb (up h32 0 5 (w32 ((h32 0 5) + 1))) fun h33 => K (w32 ((h33 0 5) - 1)) h33))))))))))))))) := by
  have a := b.c
  have w' := ch_wf b.w q
  obtain ⟨q1, q2, q3, q4, q5, q6⟩ := q
  have rok := b.w.rule j q1.1 q1.2
  have rc := a.rule j q1.1 q1.2
  have ra := a.ra j q1.1 q1.2
  have ht := rok.terms
  have cb := b.w.charts
  have rm := a.room
  simp only [vb_p, hb_p, Int.reduceAdd]
  obtain ⟨C, hC⟩ : ∃ C, h (-1) 0 = C := ⟨_, rfl⟩
  rw [hC]
  rw [and_t (by omega), nw_old (show (0 : Int) ≠ h (-1) 0 by omega) (by decide), a.charts]
  refine c_initChart hC (by omega) rc.terms ht (fun h1 k0 k1 k2 k3 k4 k5 => ?_)
  obtain ⟨x0, x1, x2, x3, x4⟩ := k2
  obtain ⟨y5, y6, y7, y8, y9, y10⟩ := k3
  rw [and_t y5, and_t y6, and_t y7, and_t y8, and_t y9, and_t y10, and_t (by omega)]
  have rc1 : RuleC h1 (h 6 j) S j := rc.keep (fun x z1 z2 => k0 x (by omega) (by omega)) ht.2
  refine c_putOrder rok rc1 (by omega) x0 x2 q4 ⟨q5.1, ho⟩ q5.2 (fun h2 l0 l1 l2 l3 l4 l5 => ?_)
  refine c_putModuli (pg := S.terms j - 2) (by omega) r0 (by rw [l0 C (by omega) (by omega) (by omega)]; exact x3) (fun h3 u0 u1 u2 => ?_)
  refine c_putModuli (pg := S.terms j - 2) (by omega) r1 (by rw [u0 C (by omega) (by omega), l0 C (by omega) (by omega) (by omega)]; exact x3) (fun h4 v0 v1 v2 => ?_)
  refine c_putModuli (pg := S.terms j - 2) (by omega) r2 (by rw [v0 C (by omega) (by omega), u0 C (by omega) (by omega), l0 C (by omega) (by omega) (by omega)]; exact x3) (fun h5 w0 w1 w2 => ?_)
  have g0 : ∀ x, x ≠ -1 → x < C → h5 x = h x := fun x z1 z2 => by rw [w0 x (by omega) (by omega), v0 x (by omega) (by omega), u0 x (by omega) (by omega), l0 x (by omega) (by omega) (by omega), k0 x z1 z2]
  have gC : h5 C = h1 C := by rw [w0 C (by omega) (by omega), v0 C (by omega) (by omega), u0 C (by omega) (by omega), l0 C (by omega) (by omega) (by omega)]
  have gm : h5 (-1) = h1 (-1) := by rw [w0 (-1) (by omega) (by omega), v0 (-1) (by omega) (by omega), u0 (-1) (by omega) (by omega), l0 (-1) (by omega) (by omega) (by omega)]
  have g1 : h5 (C + 1) = h2 (C + 1) := by rw [w0 (C + 1) (by omega) (by omega), v0 (C + 1) (by omega) (by omega), u0 (C + 1) (by omega) (by omega)]
  have g4 : h5 (C + 4) = h2 (C + 4) := by rw [w0 (C + 4) (by omega) (by omega), v0 (C + 4) (by omega) (by omega), u0 (C + 4) (by omega) (by omega)]
  have g5 : h5 (C + 5) = h2 (C + 5) := by rw [w0 (C + 5) (by omega) (by omega), v0 (C + 5) (by omega) (by omega), u0 (C + 5) (by omega) (by omega)]
  have g6 : h5 (C + 6) = dfl 4 := by rw [w0 (C + 6) (by omega) (by omega), v0 (C + 6) (by omega) (by omega), u0 (C + 6) (by omega) (by omega), l0 (C + 6) (by omega) (by omega) (by omega)]; exact k5
  have gl : ∀ p, 0 ≤ p → p < S.terms j - 2 → h5 (C + 2) p = Int.tdiv (mp m0 m1 m2 p) 100 ∧ h5 (C + 3) p = Int.tmod (mp m0 m1 m2 p) 100 := fun p p1 p2 => by
    have e3 : p = 0 ∨ p = 1 ∨ p = 2 := by omega
    rcases e3 with e | e | e <;> subst e
    · refine ⟨?_, ?_⟩
      · rw [w1, if_neg (by omega), v1, if_neg (by omega), u1, if_pos (by omega)]; rfl
      · rw [w2, if_neg (by omega), v2, if_neg (by omega), u2, if_pos (by omega)]; rfl
    · refine ⟨?_, ?_⟩
      · rw [w1, if_neg (by omega), v1, if_pos (by omega)]; rfl
      · rw [w2, if_neg (by omega), v2, if_pos (by omega)]; rfl
    · refine ⟨?_, ?_⟩
      · rw [w1, if_pos (by omega)]; rfl
      · rw [w2, if_pos (by omega)]; rfl
  clear w0 w1 w2 v0 v1 v2 u0 u1 u2
  have e5 : h5 0 5 = S.charts := by rw [g0 0 (by decide) (by omega)]; exact a.charts
  rw [e5, and_t (by omega), up_ne (show (0 : Int) ≠ 7 by decide), e5, w32_id (z := S.charts + 1) (by omega) (by omega), up_at, if_pos rfl, show S.charts + 1 - 1 = S.charts by omega, w32_id (by omega) (by omega)]
  have f0 : ∀ x, x ≠ -1 → x < C → x ≠ 0 → x ≠ 7 → (up (up h5 7 S.charts C) 0 5 (S.charts + 1)) x = h x := fun x z1 z2 z3 z4 => by rw [up_ne z3, up_ne z4]; exact g0 x z1 z2
  have f00 : ∀ k, k ≠ 5 → (up (up h5 7 S.charts C) 0 5 (S.charts + 1)) 0 k = h 0 k := fun k hk => by rw [up_at, if_neg hk, up_ne (by decide), g0 0 (by decide) (by omega)]
  have f05 : (up (up h5 7 S.charts C) 0 5 (S.charts + 1)) 0 5 = S.charts + 1 := by rw [up_at, if_pos rfl]
  have f7 : ∀ k, (up (up h5 7 S.charts C) 0 5 (S.charts + 1)) 7 k = if k = S.charts then C else h 7 k := fun k => by rw [up_ne (by decide), up_at, g0 7 (by decide) (by omega)]
  have fC : ∀ x, C ≤ x → (up (up h5 7 S.charts C) 0 5 (S.charts + 1)) x = h5 x := fun x z1 => by rw [up_ne (by omega), up_ne (by omega)]
  have fm : (up (up h5 7 S.charts C) 0 5 (S.charts + 1)) (-1) 0 = C + 7 := by rw [up_ne (by decide), up_ne (by decide), gm]; exact k1
  generalize up (up h5 7 S.charts C) 0 5 (S.charts + 1) = h6 at *
  have f6 : h6 6 = h 6 := f0 6 (by decide) (by omega) (by decide) (by decide)
  refine hK h6 ?_ ?_ (fun x z1 z2 => f0 x (by omega) (by omega) (by omega) (by omega))
  · refine RepC.of (by rw [f0 1 (by decide) (by omega) (by decide) (by decide)]; exact a.size) (by rw [f0 2 (by decide) (by omega) (by decide) (by decide)]; exact a.txt) ?_ ?_ (by rw [f00 10 (by decide)]; exact a.rdM) (by rw [f00 8 (by decide)]; exact a.now) ?_ ?_ (by rw [f00 7 (by decide)]; exact a.listed) (by rw [f0 8 (by decide) (by omega) (by decide) (by decide)]; exact a.list)
    · refine RCp.mk' (by rw [f00 3 (by decide)]; exact a.rules) ?_ ?_ (by rw [f6]; exact a.raa) f05 ?_ ?_ ?_ ?_ (by omega)
      · intro k z1 z2
        rw [f6]
        have := a.ra k z1 z2
        exact (a.rule k z1 z2).to (ch_ru k) (fun x y1 y2 => f0 x (by omega) (by omega) (by omega) (by omega)) (b.w.rule k z1 z2).terms.2
      · intro k z1 z2
        rw [f6, fm]
        have := a.ra k z1 z2
        omega
      · intro c z1 z2
        have z2 : c < S.charts + 1 := z2
        rw [f7]
        by_cases e : c = S.charts
        · subst e
          rw [if_pos rfl]
          refine ChartC.mk' ?_ ?_ ?_ ?_ ?_ ?_ ?_ ?_ ?_ ?_ ?_ ?_ ?_ ?_ ?_
          · rw [fC C (by omega), gC, x0, ch_crule, f6]
          · rw [fC C (by omega), gC]; exact x1
          · rw [fC C (by omega), gC, ch_crule]; exact x2
          · rw [fC C (by omega), gC, ch_crule]; exact x3
          · rw [fC C (by omega), gC, ch_wide]; exact x4
          · intro k s1 s2
            rw [ch_crule] at s2
            rw [fC (C + 1) (by omega), g1, ch_ord]; exact l1 k s1 s2
          · intro p s1 s2
            rw [ch_crule] at s2
            have s2 : p < S.terms j - 2 := s2
            rw [fC (C + 2) (by omega), (gl p s1 s2).1, ch_left]
            rcases q6 p s1 (by omega) with g | g
            · exact td_pos g.2.1 (by omega)
            · omega
          · intro p s1 s2
            rw [ch_crule] at s2
            have s2 : p < S.terms j - 2 := s2
            rw [fC (C + 3) (by omega), (gl p s1 s2).2, ch_right]
            rcases q6 p s1 (by omega) with g | g
            · exact Int.tmod_eq_emod_of_nonneg g.2.1
            · omega
          · rw [fC (C + 4) (by omega), g4, ch_crule, ch_ord, Int.sub_zero]; exact l2.to (ch_ru j)
          · intro k s1 s2
            rw [ch_crule] at s2
            rw [fC (C + 4) (by omega), g4, ch_crule, ch_ord]; exact (l3 k s1 s2).to (ch_ru j)
          · rw [fC (C + 5) (by omega), g5, ch_crule, ch_ord, Int.sub_zero]; exact l4.to (ch_ru j)
          · intro k s1 s2
            rw [ch_crule] at s2
            rw [fC (C + 5) (by omega), g5, ch_crule, ch_ord]; exact (l5 k s1 s2).to (ch_ru j)
          · rw [fC (C + 6) (by omega), g6, dfl_4_0]; exact (b.w.cfresh S.charts (Int.le_refl _)).1.symm
          · rw [fC (C + 6) (by omega), g6, dfl_4_1]; exact (b.w.cfresh S.charts (Int.le_refl _)).2.1.symm
          · rw [fC (C + 6) (by omega), g6, dfl_4_2]; exact (b.w.cfresh S.charts (Int.le_refl _)).2.2.symm
        · rw [if_neg e]
          have := a.ca c z1 (by omega)
          exact (a.chart c z1 (by omega)).to (ch_ch e) ⟨rfl, rfl, rfl⟩ (ch_ru _) (fun x y1 y2 => f0 x (by omega) (by omega) (by omega) (by omega)) (by rw [f6])
      · intro c z1 z2
        have z2 : c < S.charts + 1 := z2
        rw [f7, fm]
        by_cases e : c = S.charts
        · rw [if_pos e]; omega
        · rw [if_neg e]
          have := a.ca c z1 (by omega)
          omega
      · intro i k z1 z2 z3
        have z3 : k < S.charts + 1 := z3
        rw [f7, f7, if_neg (show ¬ i = S.charts by omega)]
        by_cases e : k = S.charts
        · rw [if_pos e]
          have := a.ca i z1 (by omega)
          omega
        · rw [if_neg e]; exact a.caa i k z1 z2 (by omega)
      · intro i k z1 z2 z3 z4
        have z4 : k < S.charts + 1 := z4
        rw [f6, f7]
        by_cases e : k = S.charts
        · rw [if_pos e]
          have := a.ra i z1 z2
          omega
        · rw [if_neg e]; exact a.rca i k z1 z2 z3 (by omega)
    · show h6 0 9 = if S.rdC = -1 then -1 else h6 7 S.rdC
      rw [f00 9 (by decide), a.rdC, f7]
      rcases b.w.rd with r | r
      · rw [if_pos r, if_pos r]
      · have := r.chart
        rw [if_neg (by omega), if_neg (by omega), if_neg (by omega)]
    · exact a.mvp.to ⟨rfl, rfl, rfl, rfl, rfl, rfl⟩ (fun x z1 z2 => f0 x (by omega) (by omega) (by omega) (by omega))
    · exact a.rpp.to ⟨rfl, rfl, rfl, rfl, rfl, rfl⟩ (by rw [f0 15 (by decide) (by omega) (by decide) (by decide)]) (fun x z1 z2 => f0 x (by omega) (by omega) (by omega) (by omega))
  · refine b.d.to (by rw [f0 15 (by decide) (by omega) (by decide) (by decide)]) (f0 21 (by decide) (by omega) (by decide) (by decide)) (Int.le_refl _) (fun i i1 i2 => ?_)
    have r := b.w.rep i i1 i2
    exact due_to (ch_ch (by have := r.chart; omega)) ⟨rfl, rfl, rfl⟩ (ch_ru _) ⟨rfl, rfl, rfl, rfl, rfl, rfl⟩ rfl rfl rfl
