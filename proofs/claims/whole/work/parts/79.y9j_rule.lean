/-! PURE 57: rule -/
def St.rl (σ : PS) (S : St) : St := (St.mk (0) S.txt (S.rules + 1) (fup S.terms S.rules σ.tm) (fup S.const S.rules σ.cn) (fun j => if j = S.rules then σ.kd else S.kind j) (fun j => if j = S.rules then σ.sn else S.sign j) S.many S.val (fup S.scn S.rules 0) S.sc S.charts S.crule S.ord S.wide S.left S.right S.seam S.low S.upp S.rdC S.rdM S.now S.moves S.mC S.mT S.mM S.mN S.mD S.reps S.rB S.rC S.rM S.rS S.rD S.listed S.list)
def rlR (S S' : St) : Prop := (S' = S ∧ (S.rules = 6 ∨ ∃ r : Int, 0 ≤ r ∧ S.rdg = Sum.inl r)) ∨ (∃ σ : PS, S.rules < 6 ∧ S.rdg = Sum.inr σ ∧ PI σ ∧ σ.st = 8 ∧ S' = St.rl σ S)
noncomputable def rRule (S : St) : Int := if S.rules = 6 then -1 else Sum.elim (fun _ => -1) (fun _ => S.rules) S.rdg
theorem rl_ru {S : St} {σ : PS} {j : Int} (h : j ≠ S.rules) : RuEq S (St.rl σ S) j := ⟨fup_ne h, fup_ne h, if_neg h, if_neg h, rfl, rfl, fup_ne h, rfl⟩
theorem rl_ch {S : St} {σ : PS} (c : Int) : ChEq S (St.rl σ S) c := ⟨rfl, rfl, rfl, rfl, rfl⟩
theorem rl_pa {S : St} {σ : PS} (c : Int) : PaEq S (St.rl σ S) c := ⟨rfl, rfl, rfl⟩
theorem rl_terms {S : St} {σ : PS} : (St.rl σ S).terms S.rules = σ.tm := fup_at
theorem rl_const {S : St} {σ : PS} : (St.rl σ S).const S.rules = σ.cn := fup_at
theorem rl_kind {S : St} {σ : PS} : (St.rl σ S).kind S.rules = σ.kd := if_pos rfl
theorem rl_sign {S : St} {σ : PS} : (St.rl σ S).sign S.rules = σ.sn := if_pos rfl
theorem rl_scn {S : St} {σ : PS} : (St.rl σ S).scn S.rules = 0 := fup_at
theorem rl_many {S : St} (w : WF S) {σ : PS} (t : Int) : (St.rl σ S).many S.rules t = 0 := w.fresh S.rules t (Int.le_refl _)
theorem rl_wf {S : St} (w : WF S) {σ : PS} (q : S.rules < 6) (pi : PI σ) (h8 : σ.st = 8) (cb : -2000000 ≤ σ.cn ∧ σ.cn ≤ 2000000) : WF (St.rl σ S) := by
  have rb := w.rules
  have tm := pi.tm
  have t3 := pi.s8 h8
  refine WF.mk' (by show (0 : Int) ≤ 0 ∧ (0 : Int) ≤ 120; omega) (fun i i0 i1 => by have i2 : i < 0 := i1; omega) (by show 0 ≤ S.rules + 1 ∧ S.rules + 1 ≤ 6; omega) (fun k k1 k2 => ?_) (fun j t hj => w.fresh j t (by have hj' : S.rules + 1 ≤ j := hj; omega)) w.charts (fun c c1 c2 => ?_) w.papr w.cfresh ?_ w.now w.moves w.mN w.reps (fun i i1 i2 => ?_) w.rS w.rB w.listed w.list
  · have k2' : k < S.rules + 1 := k2
    by_cases e : k = S.rules
    · subst e
      refine RuleOk.mk' ?_ ?_ ?_ ?_ ?_ ?_ ?_
      · rw [rl_terms]; omega
      · rw [rl_const]; exact cb
      · rw [rl_terms, rl_kind]; exact pi.kd
      · rw [rl_terms, rl_sign]; exact pi.sn
      · intro t _ _; exact Or.inl (rl_many w t)
      · intro t m _ _ m0 m1
        rw [rl_many w t] at m1
        omega
      · rw [rl_scn, rl_many w 0]
        exact Scale.mk' (by omega) (fun i j _ _ _ => by omega) (fun i _ _ => by omega) (fun m _ _ => by omega)
    · exact (w.rule k k1 (by omega)).to (rl_ru e)
  · have ok := w.chart c c1 c2
    exact ok.to (rl_ch c) (rl_ru (by have := ok.rule; omega)) (by show S.rules ≤ S.rules + 1; omega)
  · rcases w.rd with r | r
    · exact Or.inl r
    · have ok := w.chart _ r.chart.1 r.chart.2
      exact Or.inr (r.to (rl_ch _) (rl_ru (by have := ok.rule; omega)) (Int.le_refl _))
  · have r := w.rep i i1 i2
    have ok := w.chart _ r.chart.1 r.chart.2
    exact r.to (rl_ch _) (rl_ru (by have := ok.rule; omega)) (Int.le_refl _)
theorem mulup {g : Hh} {z C k v : Int} (hz : g (-1) 0 = z) (h0 : 0 ≤ z) (hC : 0 ≤ C ∧ C < z) :
    (up (mul g) C k v) (-1) 0 = z + 6 ∧ (∀ a, a ≠ -1 → ¬ (z ≤ a ∧ a ≤ z + 5) → a ≠ C → (up (mul g) C k v) a = g a) ∧ (∀ j, j ≠ k → (up (mul g) C k v) C j = g C j) ∧ (up (mul g) C k v) C k = v := by
  refine ⟨?_, ?_, ?_, ?_⟩
  · rw [up_ne (by omega), mul_sz (by omega), hz]
  · intro a a1 a2 a3
    rw [up_ne a3, mul_old (by omega) a1]
  · intro j hj
    rw [up_at, if_neg hj, mul_old (by omega) (by omega)]
  · rw [up_at, if_pos rfl]
theorem lt_out {a C : Int} (h : a < C) : ¬ (C + 4 ≤ a ∧ a ≤ C + 4 + 5) := by omega
theorem cn_out {C : Int} (m : Int) (h : m < 4) : ¬ (C + 4 ≤ C + m ∧ C + m ≤ C + 4 + 5) := by omega
theorem c_initRule {h0 : Hh} {C : Int} (hC : h0 (-1) 0 = C) (hC72 : 72 ≤ C) {K : Int → Hh → Prop} (hK : ∀ h, (∀ a, a ≠ -1 → a < C → h a = h0 a) → h (-1) 0 = C + 11 → (h C 0 = h0 3 2 ∧ h C 1 = h0 3 3 ∧ h C 7 = 0) → (h C 2 = C + 1 ∧ h C 3 = C + 2 ∧ h C 4 = C + 3 ∧ h C 5 = C + 4 ∧ h C 6 = C + 10) → h (C + 1) = h0 4 → h (C + 2) = h0 5 → (∀ k, h (C + 3) k = 0) → K 0 h) : w_X7_init C 3 (nw h0 (dfl 7)) K := by
  have hC0 : 0 ≤ C := by omega
  have cnn1 : 0 ≤ C + 1 := by omega
  have cnl1 : C < C + 1 := by omega
  have cnn2 : 0 ≤ C + 2 := by omega
  have cnl2 : C < C + 2 := by omega
  have cnn3 : 0 ≤ C + 3 := by omega
  have cnl3 : C < C + 3 := by omega
  have cnn4 : 0 ≤ C + 4 := by omega
  have cnl4 : C < C + 4 := by omega
  have cnn10 : 0 ≤ C + 10 := by omega
  have cnl10 : C < C + 10 := by omega
  have l3 : (3 : Int) < C := by omega
  have l4 : (4 : Int) < C := by omega
  have l5 : (5 : Int) < C := by omega
  have mC : (-1 : Int) ≠ C := by omega
  unfold w_X7_init
  simp only [hb_p, Int.reduceAdd]
  have s1 : (nw h0 (dfl 7)) (-1) 0 = C + 1 := by rw [nw_sz (by rw [hC]; exact hC0), hC]
  have o1 : ∀ a, a ≠ -1 → a ≠ C → (nw h0 (dfl 7)) a = h0 a := fun a a1 a2 => nw_old (by rw [hC]; exact a2) a1
  have o2 : (nw h0 (dfl 7)) C = dfl 7 := nw_new hC.symm
  generalize nw h0 (dfl 7) = g at *
  have e1 : (up g C 0 (g 3 2)) 3 3 = h0 3 3 := by rw [up_ne (lt_ne0 l3), o1 3 (by decide) (lt_ne0 l3)]
  have e2 : g 3 2 = h0 3 2 := by rw [o1 3 (by decide) (lt_ne0 l3)]
  rw [and_t (by decide), e1, e2]
  have f1 : (up (up g C 0 (h0 3 2)) C 1 (h0 3 3)) (-1) 0 = C + 1 := by rw [up_ne mC, up_ne mC]; exact s1
  have f2 : ∀ a, a ≠ -1 → a ≠ C → (up (up g C 0 (h0 3 2)) C 1 (h0 3 3)) a = h0 a := fun a a1 a2 => by rw [up_ne a2, up_ne a2]; exact o1 a a1 a2
  have f3 : (up (up g C 0 (h0 3 2)) C 1 (h0 3 3)) C 0 = h0 3 2 := by rw [up_at, if_neg (by decide), up_at, if_pos rfl]
  have f4 : (up (up g C 0 (h0 3 2)) C 1 (h0 3 3)) C 1 = h0 3 3 := by rw [up_at, if_pos rfl]
  have f5 : (up (up g C 0 (h0 3 2)) C 1 (h0 3 3)) C 7 = 0 := by rw [up_at, if_neg (by decide), up_at, if_neg (by decide), o2, dfl_7_7]
  generalize up (up g C 0 (h0 3 2)) C 1 (h0 3 3) = g0 at *
  rw [and_t f1]
  obtain ⟨a1, a2, a3, a4, a5⟩ := nwup (f := g0 4) (C := C) (k := 2) (v := C + 1) f1 cnn1 ⟨hC0, cnl1⟩
  generalize up (nw g0 (g0 4)) C 2 (C + 1) = g1 at *
  have a1 : g1 (-1) 0 = C + 2 := a1.trans (by rw [Int.add_assoc]; rfl)
  rw [and_t a1]
  obtain ⟨b1, b2, b3, b4, b5⟩ := nwup (f := g1 5) (C := C) (k := 3) (v := C + 2) a1 cnn2 ⟨hC0, cnl2⟩
  generalize up (nw g1 (g1 5)) C 3 (C + 2) = g2 at *
  have b1 : g2 (-1) 0 = C + 3 := b1.trans (by rw [Int.add_assoc]; rfl)
  rw [and_t b1]
  obtain ⟨c1, c2, c3, c4, c5⟩ := nwup (f := fun _ => 0) (C := C) (k := 4) (v := C + 3) b1 cnn3 ⟨hC0, cnl3⟩
  generalize up (nw g2 (fun _ => 0)) C 4 (C + 3) = g3 at *
  have c1 : g3 (-1) 0 = C + 4 := c1.trans (by rw [Int.add_assoc]; rfl)
  rw [and_t c1]
  obtain ⟨d1, d3, d4, d5⟩ := mulup (C := C) (k := 5) (v := C + 4) c1 cnn4 ⟨hC0, cnl4⟩
  generalize up (mul g3) C 5 (C + 4) = g4 at *
  have d1 : g4 (-1) 0 = C + 10 := d1.trans (by rw [Int.add_assoc]; rfl)
  rw [and_t d1]
  obtain ⟨i1, i2, i3, i4, i5⟩ := nwup (f := fun _ => 0) (C := C) (k := 6) (v := C + 10) d1 cnn10 ⟨hC0, cnl10⟩
  generalize up (nw g4 (fun _ => 0)) C 6 (C + 10) = g5 at *
  refine hK g5 ?_ (i1.trans (by rw [Int.add_assoc]; rfl)) ⟨?_, ?_, ?_⟩ ⟨?_, ?_, ?_, ?_, i5⟩ ?_ ?_ ?_
  · intro a x1 x2
    have n0 := lt_ne0 x2
    rw [i3 a x1 (lt_ne x2 10 (by decide)) n0, d3 a x1 (lt_out x2) n0, c3 a x1 (lt_ne x2 3 (by decide)) n0, b3 a x1 (lt_ne x2 2 (by decide)) n0, a3 a x1 (lt_ne x2 1 (by decide)) n0, f2 a x1 n0]
  · rw [i4 0 (by decide), d4 0 (by decide), c4 0 (by decide), b4 0 (by decide), a4 0 (by decide)]; exact f3
  · rw [i4 1 (by decide), d4 1 (by decide), c4 1 (by decide), b4 1 (by decide), a4 1 (by decide)]; exact f4
  · rw [i4 7 (by decide), d4 7 (by decide), c4 7 (by decide), b4 7 (by decide), a4 7 (by decide)]; exact f5
  · rw [i4 2 (by decide), d4 2 (by decide), c4 2 (by decide), b4 2 (by decide)]; exact a5
  · rw [i4 3 (by decide), d4 3 (by decide), c4 3 (by decide)]; exact b5
  · rw [i4 4 (by decide), d4 4 (by decide)]; exact c5
  · rw [i4 5 (by decide)]; exact d5
  · have nm := cn_nm hC0 1 (by decide)
    have n0 := cn_ne0 (C := C) 1 (by decide)
    rw [i3 (C + 1) nm (cn_ne 1 10 (by decide)) n0, d3 (C + 1) nm (cn_out 1 (by decide)) n0, c3 (C + 1) nm (cn_ne 1 3 (by decide)) n0, b3 (C + 1) nm (cn_ne 1 2 (by decide)) n0, a2]
    exact f2 4 (by decide) (lt_ne0 l4)
  · have nm := cn_nm hC0 2 (by decide)
    have n0 := cn_ne0 (C := C) 2 (by decide)
    rw [i3 (C + 2) nm (cn_ne 2 10 (by decide)) n0, d3 (C + 2) nm (cn_out 2 (by decide)) n0, c3 (C + 2) nm (cn_ne 2 3 (by decide)) n0, b2, a3 5 (by decide) (lt_ne l5 1 (by decide)) (lt_ne0 l5)]
    exact f2 5 (by decide) (lt_ne0 l5)
  · intro k
    have nm := cn_nm hC0 3 (by decide)
    have n0 := cn_ne0 (C := C) 3 (by decide)
    rw [i3 (C + 3) nm (cn_ne 3 10 (by decide)) n0, d3 (C + 3) nm (cn_out 3 (by decide)) n0, c2]
theorem c_makeRule {h h2 : Hh} {S : St} (b : Both h S) {σ : PS} (q : S.rules < 6) (e2 : eqP h h2) (pc : PC h2 σ) (pi : PI σ) (h8 : σ.st = 8) (cb : -2000000 ≤ σ.cn ∧ σ.cn ≤ 2000000) {K : Int → Hh → Prop} (hK : ∀ h', RepC h' (St.rl σ S) → DuesC h' (St.rl σ S) → keepM h h' → K S.rules h') :
    (vb (h2 (-1) 0) fun z3 => hb (nw h2 (dfl 7)) fun h5 => 0 ≤ z3 ∧ (w_X7_init z3 3 h5 (fun _ h7 => (h7 z3 2 = z3 + 1) ∧ ((h7 z3 3 = z3 + 2) ∧ ((h7 z3 4 = z3 + 3) ∧ ((h7 z3 5 = z3 + 4) ∧ ((h7 z3 6 = z3 + 10) ∧ ((h (-1) 0 ≤ z3) ∧ (((0 : Int) ≤ h2 0 3 ∧ (h2 0 3 : Int) < 6) ∧ (hb (up h7 6 (h2 0 3) z3) fun h15 => hb (up h15 0 3 (w32 ((h15 0 3) + 1))) fun h16 => hb (up h16 1 1 0) fun h17 => K (w32 ((h17 0 3) - 1)) h17)))))))))) := by
  have a := b.c
  have rm := a.room
  have rb := b.w.rules
  have tmb := pi.tm
  have em : h2 (-1) = h (-1) := e2 (-1) (by decide) (by decide) (by decide)
  have e0 : h2 0 = h 0 := e2 0 (by decide) (by decide) (by decide)
  simp only [vb_p, hb_p]
  obtain ⟨C, hC⟩ : ∃ C, h2 (-1) 0 = C := ⟨_, rfl⟩
  have hC' : h (-1) 0 = C := by rw [← em]; exact hC
  rw [hC, and_t (by omega)]
  refine c_initRule hC (by omega) (fun h1 k0 k1 k2 k3 k4 k5 k6 => ?_)
  obtain ⟨x0, x1, x7⟩ := k2
  obtain ⟨y2, y3, y4, y5, y6⟩ := k3
  rw [and_t y2, and_t y3, and_t y4, and_t y5, and_t y6, and_t (by omega), e0, a.rules, and_t (by omega)]
  have e3 : (up h1 6 S.rules C) 0 3 = S.rules := by rw [up_ne (by decide), k0 0 (by decide) (by omega), e0]; exact a.rules
  rw [e3, w32_id (z := S.rules + 1) (by omega) (by omega)]
  have e33 : (up (up (up h1 6 S.rules C) 0 3 (S.rules + 1)) 1 1 0) 0 3 = S.rules + 1 := by rw [up_ne (by decide), up_at, if_pos rfl]
  rw [e33, show S.rules + 1 - 1 = S.rules by omega, w32_id (by omega) (by omega)]
  have f0 : ∀ x, x ≠ -1 → x < C → x ≠ 0 → x ≠ 1 → x ≠ 6 → x ≠ 3 → x ≠ 4 → x ≠ 5 → (up (up (up h1 6 S.rules C) 0 3 (S.rules + 1)) 1 1 0) x = h x := fun x z1 z2 z3 z4 z5 z6 z7 z8 => by rw [up_ne z4, up_ne z3, up_ne z5, k0 x z1 z2]; exact e2 x z6 z7 z8
  have f00 : ∀ k, k ≠ 3 → (up (up (up h1 6 S.rules C) 0 3 (S.rules + 1)) 1 1 0) 0 k = h 0 k := fun k hk => by rw [up_ne (by decide), up_at, if_neg hk, up_ne (by decide), k0 0 (by decide) (by omega), e0]
  have f11 : (up (up (up h1 6 S.rules C) 0 3 (S.rules + 1)) 1 1 0) 1 1 = 0 := by rw [up_at, if_pos rfl]
  have f6 : ∀ k, (up (up (up h1 6 S.rules C) 0 3 (S.rules + 1)) 1 1 0) 6 k = if k = S.rules then C else h 6 k := fun k => by rw [up_ne (by decide), up_ne (by decide), up_at, k0 6 (by decide) (by omega), e2 6 (by decide) (by decide) (by decide)]
  have fC : ∀ x, C ≤ x → (up (up (up h1 6 S.rules C) 0 3 (S.rules + 1)) 1 1 0) x = h1 x := fun x z1 => by rw [up_ne (by omega), up_ne (by omega), up_ne (by omega)]
  have fm : (up (up (up h1 6 S.rules C) 0 3 (S.rules + 1)) 1 1 0) (-1) 0 = C + 11 := by rw [up_ne (by decide), up_ne (by decide), up_ne (by decide)]; exact k1
  generalize up (up (up h1 6 S.rules C) 0 3 (S.rules + 1)) 1 1 0 = h6 at *
  have f7 : h6 7 = h 7 := f0 7 (by decide) (by omega) (by decide) (by decide) (by decide) (by decide) (by decide) (by decide)
  refine hK h6 ?_ ?_ (fun x z1 z2 => f0 x (by omega) (by omega) (by omega) (by omega) (by omega) (by omega) (by omega) (by omega))
  · refine RepC.of f11 (fun i i0 i1 => by have i2 : i < 0 := i1; omega) ?_ ?_ (by rw [f00 10 (by decide)]; exact a.rdM) (by rw [f00 8 (by decide)]; exact a.now) ?_ ?_ (by rw [f00 7 (by decide)]; exact a.listed) (by rw [f0 8 (by decide) (by omega) (by decide) (by decide) (by decide) (by decide) (by decide) (by decide)]; exact a.list)
    · refine RCp.mk' e33 ?_ ?_ ?_ (by rw [f00 5 (by decide)]; exact a.charts) ?_ ?_ (by rw [f7]; exact a.caa) ?_ (by omega)
      · intro k z1 z2
        have z2' : k < S.rules + 1 := z2
        rw [f6]
        by_cases e : k = S.rules
        · subst e
          rw [if_pos rfl]
          refine RuleC.mk' ?_ ?_ ?_ ?_ ?_ ?_ ?_ ?_
          · rw [fC C (by omega), rl_terms, x0]; exact pc.tm
          · rw [fC C (by omega), rl_const, x1]; exact pc.cn
          · rw [fC C (by omega), rl_scn]; exact x7
          · rw [fC (C + 1) (by omega), rl_terms, rl_kind, k4]; exact pc.kd
          · rw [fC (C + 2) (by omega), rl_terms, rl_sign, k5]; exact pc.sn
          · intro t _ _
            rw [fC (C + 3) (by omega), rl_many b.w, k6]
          · intro t m _ _ m0 m1
            rw [rl_many b.w] at m1
            omega
          · intro i i0 i1
            rw [rl_scn] at i1
            omega
        · rw [if_neg e]
          have := a.ra k z1 (by omega)
          exact (a.rule k z1 (by omega)).to (rl_ru e) (fun x y1 y2 => f0 x (by omega) (by omega) (by omega) (by omega) (by omega) (by omega) (by omega) (by omega)) (b.w.rule k z1 (by omega)).terms.2
      · intro k z1 z2
        have z2' : k < S.rules + 1 := z2
        rw [f6, fm]
        by_cases e : k = S.rules
        · rw [if_pos e]; omega
        · rw [if_neg e]
          have := a.ra k z1 (by omega)
          omega
      · intro i k z1 z2 z3
        have z3' : k < S.rules + 1 := z3
        rw [f6, f6, if_neg (show ¬ i = S.rules by omega)]
        by_cases e : k = S.rules
        · rw [if_pos e]
          have := a.ra i z1 (by omega)
          omega
        · rw [if_neg e]; exact a.raa i k z1 z2 (by omega)
      · intro c z1 z2
        have z2' : c < S.charts := z2
        rw [f7]
        have ok := b.w.chart c z1 z2'
        have := a.ca c z1 z2'
        exact (a.chart c z1 z2').to (rl_ch c) (rl_pa c) (rl_ru (by have := ok.rule; omega)) (fun x y1 y2 => f0 x (by omega) (by omega) (by omega) (by omega) (by omega) (by omega) (by omega) (by omega)) (by rw [f6, if_neg (by have := ok.rule; omega)])
      · intro c z1 z2
        rw [f7, fm]
        have := a.ca c z1 z2
        omega
      · intro i k z1 z2 z3 z4
        have z2' : i < S.rules + 1 := z2
        rw [f6, f7]
        by_cases e : i = S.rules
        · rw [if_pos e]
          have := a.ca k z3 z4
          omega
        · rw [if_neg e]; exact a.rca i k z1 (by omega) z3 z4
    · show h6 0 9 = if S.rdC = -1 then -1 else h6 7 S.rdC
      rw [f00 9 (by decide), f7]; exact a.rdC
    · exact a.mvp.to ⟨rfl, rfl, rfl, rfl, rfl, rfl⟩ (fun x z1 z2 => f0 x (by omega) (by omega) (by omega) (by omega) (by omega) (by omega) (by omega) (by omega))
    · exact a.rpp.to ⟨rfl, rfl, rfl, rfl, rfl, rfl⟩ (by rw [f0 15 (by decide) (by omega) (by decide) (by decide) (by decide) (by decide) (by decide) (by decide)]) (fun x z1 z2 => f0 x (by omega) (by omega) (by omega) (by omega) (by omega) (by omega) (by omega) (by omega))
  · refine b.d.to (by rw [f0 15 (by decide) (by omega) (by decide) (by decide) (by decide) (by decide) (by decide) (by decide)]) (f0 21 (by decide) (by omega) (by decide) (by decide) (by decide) (by decide) (by decide) (by decide)) (Int.le_refl _) (fun i i1 i2 => ?_)
    have r := b.w.rep i i1 i2
    have ok := b.w.chart _ r.chart.1 r.chart.2
    exact due_to (rl_ch _) (rl_pa _) (rl_ru (by have := ok.rule; omega)) ⟨rfl, rfl, rfl, rfl, rfl, rfl⟩ rfl rfl rfl
theorem rule_C (h : Hh) (S : St) (b : Both h S) (K : Int → Hh → Prop) (hK : ∀ h' S', rlR S S' → RepC h' S' → WF S' → DuesC h' S' → keepM h h' → K (rRule S) h') : w_X10_rule 0 h K := by
  have rb := b.w.rules
  unfold w_X10_rule w_X10_rule_24
  simp only [Int.reduceAdd]
  rw [b.c.rules]
  by_cases q : S.rules ≥ 6
  · rw [if_pos q]
    have := hK h S (Or.inl ⟨rfl, Or.inl (by omega)⟩) b.c b.w b.d (fun _ _ _ => rfl)
    unfold rRule at this
    rw [if_pos (by omega)] at this
    exact this
  · rw [if_neg q]
    refine c_fault b.c b.w (fun r h2 e r0 er => ?_) (fun σ h2 e er pi h8 cb pc => ?_)
    · have bw := b.ofW e.w
      have := hK h2 S (Or.inl ⟨rfl, Or.inr ⟨r, r0, er⟩⟩) bw.c b.w bw.d (fun a a1 a2 => e a (by omega) (by omega) (by omega))
      unfold rRule at this
      rw [if_neg (by omega), er] at this
      have this' : K (-1) h2 := this
      rw [if_neg (by omega)]; exact this'
    · rw [if_pos rfl]
      have q' : S.rules < 6 := by omega
      refine c_makeRule b q' e pc pi h8 cb (fun h' a1 a2 a3 => ?_)
      have := hK h' _ (Or.inr ⟨σ, q', er, pi, h8, rfl⟩) a1 (rl_wf b.w q' pi h8 cb) a2 a3
      unfold rRule at this
      rw [if_neg (by omega), er] at this
      exact this
